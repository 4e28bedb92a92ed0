/-! beside -/
theorem zk_58 {o M : yb_S} {x : Int32} (hx : x = -1 ∨ ∃ j, j < nS M ∧ x = zi j) (hW : zW M) (hR : zR o M) : zW (yb_pI M 176 58 x) ∧ zR (yb_pI o 54 1 x) (yb_pI M 176 58 x) := by
  obtain ⟨w1, w2, w3, w4, w5, w6, w7, w8, w9, w10, w11, w12, w13, w14⟩ := hW
  obtain ⟨r1, r2, r3, r4, r5, r6, r7, r8, r9, r10, r11, r12, r13⟩ := hR
  have bH : (M.1 176 15).toNatClampNeg ≤ 24 := w1.2.2.2.1
  have bF : (M.1 176 27).toNatClampNeg ≤ 24 := w1.2.2.2.2.2.1
  have bX : (M.1 176 44).toNatClampNeg ≤ 500 := w2.2.1
  have bS : (M.1 176 54).toNatClampNeg ≤ 10 := w2.2.2.2.1
  have bD : (M.1 176 7).toNatClampNeg ≤ 200 := w2.2.2.2.2.2.1
  refine ⟨⟨?_, ?_, ?_, ?_, ?_, ?_, ?_, ?_, ?_, ?_, ?_, ?_, ?_, ?_⟩, ?_, ?_, ?_, ?_, ?_, ?_, ?_, ?_, ?_, ?_, ?_, ?_, ?_⟩
  · simpa (disch := omega) only [zRt, zRc, zRh, zRf, zRa, zRr, zRk, zRl, zRn, zRx, zRp, zRb, zRg, zW1, zW2, zWt, zWh, zWf, zWn, zWu, zWa, zWr, zWx, zWs, zWb, zWp, zWg, nT, nH, nF, nR, nK, nX, nS, nD, nB, nG, zTown, zPup, zHeads, zRooms, zThere, zHall, zLodg, zLodger, zOf, zHit, zFinds, zKin, zDayH, zu_ne, zu_nef, zu_eq, zu_id, zu_rl, zu_rdL, zu_neL, zu_idL, ↓reduceIte, Nat.reduceEqDiff] using w1
  · simpa (disch := omega) only [zRt, zRc, zRh, zRf, zRa, zRr, zRk, zRl, zRn, zRx, zRp, zRb, zRg, zW1, zW2, zWt, zWh, zWf, zWn, zWu, zWa, zWr, zWx, zWs, zWb, zWp, zWg, nT, nH, nF, nR, nK, nX, nS, nD, nB, nG, zTown, zPup, zHeads, zRooms, zThere, zHall, zLodg, zLodger, zOf, zHit, zFinds, zKin, zDayH, zu_ne, zu_nef, zu_eq, zu_id, zu_rl, zu_rdL, zu_neL, zu_idL, ↓reduceIte, Nat.reduceEqDiff] using w2
  · simpa (disch := omega) only [zRt, zRc, zRh, zRf, zRa, zRr, zRk, zRl, zRn, zRx, zRp, zRb, zRg, zW1, zW2, zWt, zWh, zWf, zWn, zWu, zWa, zWr, zWx, zWs, zWb, zWp, zWg, nT, nH, nF, nR, nK, nX, nS, nD, nB, nG, zTown, zPup, zHeads, zRooms, zThere, zHall, zLodg, zLodger, zOf, zHit, zFinds, zKin, zDayH, zu_ne, zu_nef, zu_eq, zu_id, zu_rl, zu_rdL, zu_neL, zu_idL, ↓reduceIte, Nat.reduceEqDiff] using w3
  · simpa (disch := omega) only [zRt, zRc, zRh, zRf, zRa, zRr, zRk, zRl, zRn, zRx, zRp, zRb, zRg, zW1, zW2, zWt, zWh, zWf, zWn, zWu, zWa, zWr, zWx, zWs, zWb, zWp, zWg, nT, nH, nF, nR, nK, nX, nS, nD, nB, nG, zTown, zPup, zHeads, zRooms, zThere, zHall, zLodg, zLodger, zOf, zHit, zFinds, zKin, zDayH, zu_ne, zu_nef, zu_eq, zu_id, zu_rl, zu_rdL, zu_neL, zu_idL, ↓reduceIte, Nat.reduceEqDiff] using w4
  · simpa (disch := omega) only [zRt, zRc, zRh, zRf, zRa, zRr, zRk, zRl, zRn, zRx, zRp, zRb, zRg, zW1, zW2, zWt, zWh, zWf, zWn, zWu, zWa, zWr, zWx, zWs, zWb, zWp, zWg, nT, nH, nF, nR, nK, nX, nS, nD, nB, nG, zTown, zPup, zHeads, zRooms, zThere, zHall, zLodg, zLodger, zOf, zHit, zFinds, zKin, zDayH, zu_ne, zu_nef, zu_eq, zu_id, zu_rl, zu_rdL, zu_neL, zu_idL, ↓reduceIte, Nat.reduceEqDiff] using w5
  · simpa (disch := omega) only [zRt, zRc, zRh, zRf, zRa, zRr, zRk, zRl, zRn, zRx, zRp, zRb, zRg, zW1, zW2, zWt, zWh, zWf, zWn, zWu, zWa, zWr, zWx, zWs, zWb, zWp, zWg, nT, nH, nF, nR, nK, nX, nS, nD, nB, nG, zTown, zPup, zHeads, zRooms, zThere, zHall, zLodg, zLodger, zOf, zHit, zFinds, zKin, zDayH, zu_ne, zu_nef, zu_eq, zu_id, zu_rl, zu_rdL, zu_neL, zu_idL, ↓reduceIte, Nat.reduceEqDiff] using w6
  · simpa (disch := omega) only [zRt, zRc, zRh, zRf, zRa, zRr, zRk, zRl, zRn, zRx, zRp, zRb, zRg, zW1, zW2, zWt, zWh, zWf, zWn, zWu, zWa, zWr, zWx, zWs, zWb, zWp, zWg, nT, nH, nF, nR, nK, nX, nS, nD, nB, nG, zTown, zPup, zHeads, zRooms, zThere, zHall, zLodg, zLodger, zOf, zHit, zFinds, zKin, zDayH, zu_ne, zu_nef, zu_eq, zu_id, zu_rl, zu_rdL, zu_neL, zu_idL, ↓reduceIte, Nat.reduceEqDiff] using w7
  · simpa (disch := omega) only [zRt, zRc, zRh, zRf, zRa, zRr, zRk, zRl, zRn, zRx, zRp, zRb, zRg, zW1, zW2, zWt, zWh, zWf, zWn, zWu, zWa, zWr, zWx, zWs, zWb, zWp, zWg, nT, nH, nF, nR, nK, nX, nS, nD, nB, nG, zTown, zPup, zHeads, zRooms, zThere, zHall, zLodg, zLodger, zOf, zHit, zFinds, zKin, zDayH, zu_ne, zu_nef, zu_eq, zu_id, zu_rl, zu_rdL, zu_neL, zu_idL, ↓reduceIte, Nat.reduceEqDiff] using w8
  · simpa (disch := omega) only [zRt, zRc, zRh, zRf, zRa, zRr, zRk, zRl, zRn, zRx, zRp, zRb, zRg, zW1, zW2, zWt, zWh, zWf, zWn, zWu, zWa, zWr, zWx, zWs, zWb, zWp, zWg, nT, nH, nF, nR, nK, nX, nS, nD, nB, nG, zTown, zPup, zHeads, zRooms, zThere, zHall, zLodg, zLodger, zOf, zHit, zFinds, zKin, zDayH, zu_ne, zu_nef, zu_eq, zu_id, zu_rl, zu_rdL, zu_neL, zu_idL, ↓reduceIte, Nat.reduceEqDiff] using w9
  · simpa (disch := omega) only [zRt, zRc, zRh, zRf, zRa, zRr, zRk, zRl, zRn, zRx, zRp, zRb, zRg, zW1, zW2, zWt, zWh, zWf, zWn, zWu, zWa, zWr, zWx, zWs, zWb, zWp, zWg, nT, nH, nF, nR, nK, nX, nS, nD, nB, nG, zTown, zPup, zHeads, zRooms, zThere, zHall, zLodg, zLodger, zOf, zHit, zFinds, zKin, zDayH, zu_ne, zu_nef, zu_eq, zu_id, zu_rl, zu_rdL, zu_neL, zu_idL, ↓reduceIte, Nat.reduceEqDiff] using w10
  · refine ⟨?_, ?_⟩
    · rw [zu_eq]
      unfold nS
      rw [zu_id, if_neg (by decide)]
      exact hx
    · have q := w11.2
      simpa (disch := omega) only [zRt, zRc, zRh, zRf, zRa, zRr, zRk, zRl, zRn, zRx, zRp, zRb, zRg, zW1, zW2, zWt, zWh, zWf, zWn, zWu, zWa, zWr, zWx, zWs, zWb, zWp, zWg, nT, nH, nF, nR, nK, nX, nS, nD, nB, nG, zTown, zPup, zHeads, zRooms, zThere, zHall, zLodg, zLodger, zOf, zHit, zFinds, zKin, zDayH, zu_ne, zu_nef, zu_eq, zu_id, zu_rl, zu_rdL, zu_neL, zu_idL, ↓reduceIte, Nat.reduceEqDiff] using q
  · simpa (disch := omega) only [zRt, zRc, zRh, zRf, zRa, zRr, zRk, zRl, zRn, zRx, zRp, zRb, zRg, zW1, zW2, zWt, zWh, zWf, zWn, zWu, zWa, zWr, zWx, zWs, zWb, zWp, zWg, nT, nH, nF, nR, nK, nX, nS, nD, nB, nG, zTown, zPup, zHeads, zRooms, zThere, zHall, zLodg, zLodger, zOf, zHit, zFinds, zKin, zDayH, zu_ne, zu_nef, zu_eq, zu_id, zu_rl, zu_rdL, zu_neL, zu_idL, ↓reduceIte, Nat.reduceEqDiff] using w12
  · simpa (disch := omega) only [zRt, zRc, zRh, zRf, zRa, zRr, zRk, zRl, zRn, zRx, zRp, zRb, zRg, zW1, zW2, zWt, zWh, zWf, zWn, zWu, zWa, zWr, zWx, zWs, zWb, zWp, zWg, nT, nH, nF, nR, nK, nX, nS, nD, nB, nG, zTown, zPup, zHeads, zRooms, zThere, zHall, zLodg, zLodger, zOf, zHit, zFinds, zKin, zDayH, zu_ne, zu_nef, zu_eq, zu_id, zu_rl, zu_rdL, zu_neL, zu_idL, ↓reduceIte, Nat.reduceEqDiff] using w13
  · simpa (disch := omega) only [zRt, zRc, zRh, zRf, zRa, zRr, zRk, zRl, zRn, zRx, zRp, zRb, zRg, zW1, zW2, zWt, zWh, zWf, zWn, zWu, zWa, zWr, zWx, zWs, zWb, zWp, zWg, nT, nH, nF, nR, nK, nX, nS, nD, nB, nG, zTown, zPup, zHeads, zRooms, zThere, zHall, zLodg, zLodger, zOf, zHit, zFinds, zKin, zDayH, zu_ne, zu_nef, zu_eq, zu_id, zu_rl, zu_rdL, zu_neL, zu_idL, ↓reduceIte, Nat.reduceEqDiff] using w14
  · simpa (disch := omega) only [zRt, zRc, zRh, zRf, zRa, zRr, zRk, zRl, zRn, zRx, zRp, zRb, zRg, zW1, zW2, zWt, zWh, zWf, zWn, zWu, zWa, zWr, zWx, zWs, zWb, zWp, zWg, nT, nH, nF, nR, nK, nX, nS, nD, nB, nG, zTown, zPup, zHeads, zRooms, zThere, zHall, zLodg, zLodger, zOf, zHit, zFinds, zKin, zDayH, zu_ne, zu_nef, zu_eq, zu_id, zu_rl, zu_rdL, zu_neL, zu_idL, ↓reduceIte, Nat.reduceEqDiff] using r1
  · simpa (disch := omega) only [zRt, zRc, zRh, zRf, zRa, zRr, zRk, zRl, zRn, zRx, zRp, zRb, zRg, zW1, zW2, zWt, zWh, zWf, zWn, zWu, zWa, zWr, zWx, zWs, zWb, zWp, zWg, nT, nH, nF, nR, nK, nX, nS, nD, nB, nG, zTown, zPup, zHeads, zRooms, zThere, zHall, zLodg, zLodger, zOf, zHit, zFinds, zKin, zDayH, zu_ne, zu_nef, zu_eq, zu_id, zu_rl, zu_rdL, zu_neL, zu_idL, ↓reduceIte, Nat.reduceEqDiff] using r2
  · simpa (disch := omega) only [zRt, zRc, zRh, zRf, zRa, zRr, zRk, zRl, zRn, zRx, zRp, zRb, zRg, zW1, zW2, zWt, zWh, zWf, zWn, zWu, zWa, zWr, zWx, zWs, zWb, zWp, zWg, nT, nH, nF, nR, nK, nX, nS, nD, nB, nG, zTown, zPup, zHeads, zRooms, zThere, zHall, zLodg, zLodger, zOf, zHit, zFinds, zKin, zDayH, zu_ne, zu_nef, zu_eq, zu_id, zu_rl, zu_rdL, zu_neL, zu_idL, ↓reduceIte, Nat.reduceEqDiff] using r3
  · simpa (disch := omega) only [zRt, zRc, zRh, zRf, zRa, zRr, zRk, zRl, zRn, zRx, zRp, zRb, zRg, zW1, zW2, zWt, zWh, zWf, zWn, zWu, zWa, zWr, zWx, zWs, zWb, zWp, zWg, nT, nH, nF, nR, nK, nX, nS, nD, nB, nG, zTown, zPup, zHeads, zRooms, zThere, zHall, zLodg, zLodger, zOf, zHit, zFinds, zKin, zDayH, zu_ne, zu_nef, zu_eq, zu_id, zu_rl, zu_rdL, zu_neL, zu_idL, ↓reduceIte, Nat.reduceEqDiff] using r4
  · simpa (disch := omega) only [zRt, zRc, zRh, zRf, zRa, zRr, zRk, zRl, zRn, zRx, zRp, zRb, zRg, zW1, zW2, zWt, zWh, zWf, zWn, zWu, zWa, zWr, zWx, zWs, zWb, zWp, zWg, nT, nH, nF, nR, nK, nX, nS, nD, nB, nG, zTown, zPup, zHeads, zRooms, zThere, zHall, zLodg, zLodger, zOf, zHit, zFinds, zKin, zDayH, zu_ne, zu_nef, zu_eq, zu_id, zu_rl, zu_rdL, zu_neL, zu_idL, ↓reduceIte, Nat.reduceEqDiff] using r5
  · simpa (disch := omega) only [zRt, zRc, zRh, zRf, zRa, zRr, zRk, zRl, zRn, zRx, zRp, zRb, zRg, zW1, zW2, zWt, zWh, zWf, zWn, zWu, zWa, zWr, zWx, zWs, zWb, zWp, zWg, nT, nH, nF, nR, nK, nX, nS, nD, nB, nG, zTown, zPup, zHeads, zRooms, zThere, zHall, zLodg, zLodger, zOf, zHit, zFinds, zKin, zDayH, zu_ne, zu_nef, zu_eq, zu_id, zu_rl, zu_rdL, zu_neL, zu_idL, ↓reduceIte, Nat.reduceEqDiff] using r6
  · simpa (disch := omega) only [zRt, zRc, zRh, zRf, zRa, zRr, zRk, zRl, zRn, zRx, zRp, zRb, zRg, zW1, zW2, zWt, zWh, zWf, zWn, zWu, zWa, zWr, zWx, zWs, zWb, zWp, zWg, nT, nH, nF, nR, nK, nX, nS, nD, nB, nG, zTown, zPup, zHeads, zRooms, zThere, zHall, zLodg, zLodger, zOf, zHit, zFinds, zKin, zDayH, zu_ne, zu_nef, zu_eq, zu_id, zu_rl, zu_rdL, zu_neL, zu_idL, ↓reduceIte, Nat.reduceEqDiff] using r7
  · refine ⟨?_, ?_, ?_⟩
    · rw [zu_id, if_neg (by decide), zu_id, if_neg (by decide)]
      exact r8.1
    · rw [zu_eq, zu_eq]
    · have q := r8.2.2
      simpa (disch := omega) only [zRt, zRc, zRh, zRf, zRa, zRr, zRk, zRl, zRn, zRx, zRp, zRb, zRg, zW1, zW2, zWt, zWh, zWf, zWn, zWu, zWa, zWr, zWx, zWs, zWb, zWp, zWg, nT, nH, nF, nR, nK, nX, nS, nD, nB, nG, zTown, zPup, zHeads, zRooms, zThere, zHall, zLodg, zLodger, zOf, zHit, zFinds, zKin, zDayH, zu_ne, zu_nef, zu_eq, zu_id, zu_rl, zu_rdL, zu_neL, zu_idL, ↓reduceIte, Nat.reduceEqDiff] using q
  · simpa (disch := omega) only [zRt, zRc, zRh, zRf, zRa, zRr, zRk, zRl, zRn, zRx, zRp, zRb, zRg, zW1, zW2, zWt, zWh, zWf, zWn, zWu, zWa, zWr, zWx, zWs, zWb, zWp, zWg, nT, nH, nF, nR, nK, nX, nS, nD, nB, nG, zTown, zPup, zHeads, zRooms, zThere, zHall, zLodg, zLodger, zOf, zHit, zFinds, zKin, zDayH, zu_ne, zu_nef, zu_eq, zu_id, zu_rl, zu_rdL, zu_neL, zu_idL, ↓reduceIte, Nat.reduceEqDiff] using r9
  · simpa (disch := omega) only [zRt, zRc, zRh, zRf, zRa, zRr, zRk, zRl, zRn, zRx, zRp, zRb, zRg, zW1, zW2, zWt, zWh, zWf, zWn, zWu, zWa, zWr, zWx, zWs, zWb, zWp, zWg, nT, nH, nF, nR, nK, nX, nS, nD, nB, nG, zTown, zPup, zHeads, zRooms, zThere, zHall, zLodg, zLodger, zOf, zHit, zFinds, zKin, zDayH, zu_ne, zu_nef, zu_eq, zu_id, zu_rl, zu_rdL, zu_neL, zu_idL, ↓reduceIte, Nat.reduceEqDiff] using r10
  · simpa (disch := omega) only [zRt, zRc, zRh, zRf, zRa, zRr, zRk, zRl, zRn, zRx, zRp, zRb, zRg, zW1, zW2, zWt, zWh, zWf, zWn, zWu, zWa, zWr, zWx, zWs, zWb, zWp, zWg, nT, nH, nF, nR, nK, nX, nS, nD, nB, nG, zTown, zPup, zHeads, zRooms, zThere, zHall, zLodg, zLodger, zOf, zHit, zFinds, zKin, zDayH, zu_ne, zu_nef, zu_eq, zu_id, zu_rl, zu_rdL, zu_neL, zu_idL, ↓reduceIte, Nat.reduceEqDiff] using r11
  · simpa (disch := omega) only [zRt, zRc, zRh, zRf, zRa, zRr, zRk, zRl, zRn, zRx, zRp, zRb, zRg, zW1, zW2, zWt, zWh, zWf, zWn, zWu, zWa, zWr, zWx, zWs, zWb, zWp, zWg, nT, nH, nF, nR, nK, nX, nS, nD, nB, nG, zTown, zPup, zHeads, zRooms, zThere, zHall, zLodg, zLodger, zOf, zHit, zFinds, zKin, zDayH, zu_ne, zu_nef, zu_eq, zu_id, zu_rl, zu_rdL, zu_neL, zu_idL, ↓reduceIte, Nat.reduceEqDiff] using r12
  · simpa (disch := omega) only [zRt, zRc, zRh, zRf, zRa, zRr, zRk, zRl, zRn, zRx, zRp, zRb, zRg, zW1, zW2, zWt, zWh, zWf, zWn, zWu, zWa, zWr, zWx, zWs, zWb, zWp, zWg, nT, nH, nF, nR, nK, nX, nS, nD, nB, nG, zTown, zPup, zHeads, zRooms, zThere, zHall, zLodg, zLodger, zOf, zHit, zFinds, zKin, zDayH, zu_ne, zu_nef, zu_eq, zu_id, zu_rl, zu_rdL, zu_neL, zu_idL, ↓reduceIte, Nat.reduceEqDiff] using r13
theorem zk_58A {M m s : yb_S} {x : Int32} (hx : x = -1 ∨ ∃ j, j < nS M ∧ x = zi j) (hW : zW M) (hA : zA M m s) : zA (yb_pI M 176 58 x) m (yb_pI s 54 1 x) := by
  refine ⟨?_, ?_⟩
  · simp (disch := omega) only [zP_e, zP_s, zP_k, zP_k0, zP_Ls, zP_Le, zO_e, zO_s, zO_92, zO_92s, zO_100, zO_100s, zO_Ls, zO_Le]
    exact (zk_58 hx hW hA.1).2
  · rw [zHm_pI (by decide)]
    exact hA.2
theorem zk_58W {M : yb_S} {x : Int32} (hx : x = -1 ∨ ∃ j, j < nS M ∧ x = zi j) (hW : zW M) : zW (yb_pI M 176 58 x) := by
  obtain ⟨w1, w2, w3, w4, w5, w6, w7, w8, w9, w10, w11, w12, w13, w14⟩ := hW
  have bH : (M.1 176 15).toNatClampNeg ≤ 24 := w1.2.2.2.1
  have bF : (M.1 176 27).toNatClampNeg ≤ 24 := w1.2.2.2.2.2.1
  have bX : (M.1 176 44).toNatClampNeg ≤ 500 := w2.2.1
  have bS : (M.1 176 54).toNatClampNeg ≤ 10 := w2.2.2.2.1
  have bD : (M.1 176 7).toNatClampNeg ≤ 200 := w2.2.2.2.2.2.1
  refine ⟨?_, ?_, ?_, ?_, ?_, ?_, ?_, ?_, ?_, ?_, ?_, ?_, ?_, ?_⟩
  · simpa (disch := omega) only [zRt, zRc, zRh, zRf, zRa, zRr, zRk, zRl, zRn, zRx, zRp, zRb, zRg, zW1, zW2, zWt, zWh, zWf, zWn, zWu, zWa, zWr, zWx, zWs, zWb, zWp, zWg, nT, nH, nF, nR, nK, nX, nS, nD, nB, nG, zTown, zPup, zHeads, zRooms, zThere, zHall, zLodg, zLodger, zOf, zHit, zFinds, zKin, zDayH, zu_ne, zu_nef, zu_eq, zu_id, zu_rl, zu_rdL, zu_neL, zu_idL, ↓reduceIte, Nat.reduceEqDiff] using w1
  · simpa (disch := omega) only [zRt, zRc, zRh, zRf, zRa, zRr, zRk, zRl, zRn, zRx, zRp, zRb, zRg, zW1, zW2, zWt, zWh, zWf, zWn, zWu, zWa, zWr, zWx, zWs, zWb, zWp, zWg, nT, nH, nF, nR, nK, nX, nS, nD, nB, nG, zTown, zPup, zHeads, zRooms, zThere, zHall, zLodg, zLodger, zOf, zHit, zFinds, zKin, zDayH, zu_ne, zu_nef, zu_eq, zu_id, zu_rl, zu_rdL, zu_neL, zu_idL, ↓reduceIte, Nat.reduceEqDiff] using w2
  · simpa (disch := omega) only [zRt, zRc, zRh, zRf, zRa, zRr, zRk, zRl, zRn, zRx, zRp, zRb, zRg, zW1, zW2, zWt, zWh, zWf, zWn, zWu, zWa, zWr, zWx, zWs, zWb, zWp, zWg, nT, nH, nF, nR, nK, nX, nS, nD, nB, nG, zTown, zPup, zHeads, zRooms, zThere, zHall, zLodg, zLodger, zOf, zHit, zFinds, zKin, zDayH, zu_ne, zu_nef, zu_eq, zu_id, zu_rl, zu_rdL, zu_neL, zu_idL, ↓reduceIte, Nat.reduceEqDiff] using w3
  · simpa (disch := omega) only [zRt, zRc, zRh, zRf, zRa, zRr, zRk, zRl, zRn, zRx, zRp, zRb, zRg, zW1, zW2, zWt, zWh, zWf, zWn, zWu, zWa, zWr, zWx, zWs, zWb, zWp, zWg, nT, nH, nF, nR, nK, nX, nS, nD, nB, nG, zTown, zPup, zHeads, zRooms, zThere, zHall, zLodg, zLodger, zOf, zHit, zFinds, zKin, zDayH, zu_ne, zu_nef, zu_eq, zu_id, zu_rl, zu_rdL, zu_neL, zu_idL, ↓reduceIte, Nat.reduceEqDiff] using w4
  · simpa (disch := omega) only [zRt, zRc, zRh, zRf, zRa, zRr, zRk, zRl, zRn, zRx, zRp, zRb, zRg, zW1, zW2, zWt, zWh, zWf, zWn, zWu, zWa, zWr, zWx, zWs, zWb, zWp, zWg, nT, nH, nF, nR, nK, nX, nS, nD, nB, nG, zTown, zPup, zHeads, zRooms, zThere, zHall, zLodg, zLodger, zOf, zHit, zFinds, zKin, zDayH, zu_ne, zu_nef, zu_eq, zu_id, zu_rl, zu_rdL, zu_neL, zu_idL, ↓reduceIte, Nat.reduceEqDiff] using w5
  · simpa (disch := omega) only [zRt, zRc, zRh, zRf, zRa, zRr, zRk, zRl, zRn, zRx, zRp, zRb, zRg, zW1, zW2, zWt, zWh, zWf, zWn, zWu, zWa, zWr, zWx, zWs, zWb, zWp, zWg, nT, nH, nF, nR, nK, nX, nS, nD, nB, nG, zTown, zPup, zHeads, zRooms, zThere, zHall, zLodg, zLodger, zOf, zHit, zFinds, zKin, zDayH, zu_ne, zu_nef, zu_eq, zu_id, zu_rl, zu_rdL, zu_neL, zu_idL, ↓reduceIte, Nat.reduceEqDiff] using w6
  · simpa (disch := omega) only [zRt, zRc, zRh, zRf, zRa, zRr, zRk, zRl, zRn, zRx, zRp, zRb, zRg, zW1, zW2, zWt, zWh, zWf, zWn, zWu, zWa, zWr, zWx, zWs, zWb, zWp, zWg, nT, nH, nF, nR, nK, nX, nS, nD, nB, nG, zTown, zPup, zHeads, zRooms, zThere, zHall, zLodg, zLodger, zOf, zHit, zFinds, zKin, zDayH, zu_ne, zu_nef, zu_eq, zu_id, zu_rl, zu_rdL, zu_neL, zu_idL, ↓reduceIte, Nat.reduceEqDiff] using w7
  · simpa (disch := omega) only [zRt, zRc, zRh, zRf, zRa, zRr, zRk, zRl, zRn, zRx, zRp, zRb, zRg, zW1, zW2, zWt, zWh, zWf, zWn, zWu, zWa, zWr, zWx, zWs, zWb, zWp, zWg, nT, nH, nF, nR, nK, nX, nS, nD, nB, nG, zTown, zPup, zHeads, zRooms, zThere, zHall, zLodg, zLodger, zOf, zHit, zFinds, zKin, zDayH, zu_ne, zu_nef, zu_eq, zu_id, zu_rl, zu_rdL, zu_neL, zu_idL, ↓reduceIte, Nat.reduceEqDiff] using w8
  · simpa (disch := omega) only [zRt, zRc, zRh, zRf, zRa, zRr, zRk, zRl, zRn, zRx, zRp, zRb, zRg, zW1, zW2, zWt, zWh, zWf, zWn, zWu, zWa, zWr, zWx, zWs, zWb, zWp, zWg, nT, nH, nF, nR, nK, nX, nS, nD, nB, nG, zTown, zPup, zHeads, zRooms, zThere, zHall, zLodg, zLodger, zOf, zHit, zFinds, zKin, zDayH, zu_ne, zu_nef, zu_eq, zu_id, zu_rl, zu_rdL, zu_neL, zu_idL, ↓reduceIte, Nat.reduceEqDiff] using w9
  · simpa (disch := omega) only [zRt, zRc, zRh, zRf, zRa, zRr, zRk, zRl, zRn, zRx, zRp, zRb, zRg, zW1, zW2, zWt, zWh, zWf, zWn, zWu, zWa, zWr, zWx, zWs, zWb, zWp, zWg, nT, nH, nF, nR, nK, nX, nS, nD, nB, nG, zTown, zPup, zHeads, zRooms, zThere, zHall, zLodg, zLodger, zOf, zHit, zFinds, zKin, zDayH, zu_ne, zu_nef, zu_eq, zu_id, zu_rl, zu_rdL, zu_neL, zu_idL, ↓reduceIte, Nat.reduceEqDiff] using w10
  · refine ⟨?_, ?_⟩
    · rw [zu_eq]
      unfold nS
      rw [zu_id, if_neg (by decide)]
      exact hx
    · have q := w11.2
      simpa (disch := omega) only [zRt, zRc, zRh, zRf, zRa, zRr, zRk, zRl, zRn, zRx, zRp, zRb, zRg, zW1, zW2, zWt, zWh, zWf, zWn, zWu, zWa, zWr, zWx, zWs, zWb, zWp, zWg, nT, nH, nF, nR, nK, nX, nS, nD, nB, nG, zTown, zPup, zHeads, zRooms, zThere, zHall, zLodg, zLodger, zOf, zHit, zFinds, zKin, zDayH, zu_ne, zu_nef, zu_eq, zu_id, zu_rl, zu_rdL, zu_neL, zu_idL, ↓reduceIte, Nat.reduceEqDiff] using q
  · simpa (disch := omega) only [zRt, zRc, zRh, zRf, zRa, zRr, zRk, zRl, zRn, zRx, zRp, zRb, zRg, zW1, zW2, zWt, zWh, zWf, zWn, zWu, zWa, zWr, zWx, zWs, zWb, zWp, zWg, nT, nH, nF, nR, nK, nX, nS, nD, nB, nG, zTown, zPup, zHeads, zRooms, zThere, zHall, zLodg, zLodger, zOf, zHit, zFinds, zKin, zDayH, zu_ne, zu_nef, zu_eq, zu_id, zu_rl, zu_rdL, zu_neL, zu_idL, ↓reduceIte, Nat.reduceEqDiff] using w12
  · simpa (disch := omega) only [zRt, zRc, zRh, zRf, zRa, zRr, zRk, zRl, zRn, zRx, zRp, zRb, zRg, zW1, zW2, zWt, zWh, zWf, zWn, zWu, zWa, zWr, zWx, zWs, zWb, zWp, zWg, nT, nH, nF, nR, nK, nX, nS, nD, nB, nG, zTown, zPup, zHeads, zRooms, zThere, zHall, zLodg, zLodger, zOf, zHit, zFinds, zKin, zDayH, zu_ne, zu_nef, zu_eq, zu_id, zu_rl, zu_rdL, zu_neL, zu_idL, ↓reduceIte, Nat.reduceEqDiff] using w13
  · simpa (disch := omega) only [zRt, zRc, zRh, zRf, zRa, zRr, zRk, zRl, zRn, zRx, zRp, zRb, zRg, zW1, zW2, zWt, zWh, zWf, zWn, zWu, zWa, zWr, zWx, zWs, zWb, zWp, zWg, nT, nH, nF, nR, nK, nX, nS, nD, nB, nG, zTown, zPup, zHeads, zRooms, zThere, zHall, zLodg, zLodger, zOf, zHit, zFinds, zKin, zDayH, zu_ne, zu_nef, zu_eq, zu_id, zu_rl, zu_rdL, zu_neL, zu_idL, ↓reduceIte, Nat.reduceEqDiff] using w14
theorem zHall_un {M : yb_S} {f : Nat} (hf : f < nF M) (h1 : M.1 195 f = 1) : zHall (zUn M f) = zHall M + M.1 189 f := by
  unfold zHall
  rw [(zN_hous (zUn_h (M := M) (f := f))).1, zsum_upd (g := fun f => cond (M.1 195 f == 0) (M.1 189 f) 0) hf (fun k hk h => by
    rw [zUn_h.1 195 k (Or.inr h), zHous_c zUn_h (by decide) (by decide)])]
  rw [zUn_1.1, zHous_c zUn_h (by decide) (by decide), h1, show ((1 : Int32) == 0) = false from by decide, show ((0 : Int32) == 0) = true from by decide]
  simp
/-- to take back: the first k in the line q -/
def zTk (q : Nat → Nat) (P : yb_S) : Nat → yb_S × Int32
  | 0 => (P, 0)
  | k + 1 => if (zTk q P k).1.1 195 (q k) = 1 then (zUn (zTk q P k).1 (q k), (zTk q P k).2 + (zTk q P k).1.1 189 (q k)) else zTk q P k
theorem zTk_s {q : Nat → Nat} {P : yb_S} {k : Nat} : zTk q P (k + 1) = if (zTk q P k).1.1 195 (q k) = 1 then (zUn (zTk q P k).1 (q k), (zTk q P k).2 + (zTk q P k).1.1 189 (q k)) else zTk q P k := rfl
theorem zTk_ok {q : Nat → Nat} {P : yb_S} {c : Nat} (hW : zW P) (hinj : ∀ j k, j < c → k < c → q j = q k → j = k) (hlt : ∀ j, j < c → q j < nF P) (h01 : ∀ j, j < c → P.1 195 (q j) = 0 ∨ P.1 195 (q j) = 1) : ∀ k, k ≤ c → zW (zTk q P k).1 ∧ (∀ id, id ≠ 195 → id ≠ 196 → (zTk q P k).1.1 id = P.1 id) ∧ (zTk q P k).1.2 = P.2 ∧ (∀ f, (∀ j, j < k → q j ≠ f) → (zTk q P k).1.1 195 f = P.1 195 f ∧ (zTk q P k).1.1 196 f = P.1 196 f) ∧ (∀ j, j < k → (zTk q P k).1.1 195 (q j) = 0 ∧ (zTk q P k).1.1 196 (q j) = -1) ∧ zHall (zTk q P k).1 = zHall P + (zTk q P k).2 := by
  intro k
  induction k with
  | zero => exact fun _ => ⟨hW, fun _ _ _ => rfl, rfl, fun _ _ => ⟨rfl, rfl⟩, fun j hj => absurd hj (Nat.not_lt_zero _), by simp [zTk]⟩
  | succ k ih =>
    intro hk
    obtain ⟨p1, p2, p3, p4, p5, p6⟩ := ih (by omega)
    have es := zTk_s (q := q) (P := P) (k := k)
    obtain ⟨n1, n2, n3⟩ := zN_fr (p2 176 (by decide) (by decide))
    have hqk : q k < nF (zTk q P k).1 := by rw [n1]; exact hlt k (by omega)
    by_cases c1 : (zTk q P k).1.1 195 (q k) = 1
    · rw [if_pos c1] at es
      rw [es]
      refine ⟨zUn_W p1 hqk, fun id h1 h2 => ?_, p3, fun f hf => ?_, fun j hj => ?_, ?_⟩
      · dsimp only
        rw [zHous_c zUn_h h1 h2]
        exact p2 id h1 h2
      · have hne := hf k (by omega)
        dsimp only
        rw [zUn_h.1 195 f (Or.inr (Ne.symm hne)), zUn_h.1 196 f (Or.inr (Ne.symm hne))]
        exact p4 f (fun j hj => hf j (by omega))
      · dsimp only
        by_cases e : q j = q k
        · rw [e]
          exact zUn_1
        · rw [zUn_h.1 195 _ (Or.inr e), zUn_h.1 196 _ (Or.inr e)]
          exact p5 j (by
            have : j ≠ k := fun e2 => e (by rw [e2])
            omega)
      · dsimp only
        rw [zHall_un hqk c1, p6]
        grind
    · rw [if_neg c1] at es
      rw [es]
      refine ⟨p1, p2, p3, fun f hf => p4 f (fun j hj => hf j (by omega)), fun j hj => ?_, p6⟩
      by_cases e : j = k
      · subst e
        have e1 := p4 (q j) (fun i hi e => by have := hinj i j (by omega) (by omega) e; omega)
        have e0 : (zTk q P j).1.1 195 (q j) = 0 := by
          rcases h01 j (by omega) with e | e
          · rw [e1.1, e]
          · rw [e1.1] at c1
            exact absurd e c1
        refine ⟨e0, ?_⟩
        rcases (zw_f p1 hqk).2.2.2.1 with ⟨y, -⟩ | ⟨-, y⟩
        · exact absurd y c1
        · exact y
      · exact p5 j (by omega)
theorem zTk_M {q : Nat → Nat} {M : yb_S} {c : Nat} (hW : zW M) (hinj : ∀ j k, j < c → k < c → q j = q k → j = k) (hlt : ∀ j, j < c → q j < nF M ∧ M.1 195 (q j) = 0) : (zTk q (zPl false q M c).1 c).1 = M := by
  have p := zPl_ok (kept := false) hW hinj hlt c (Nat.le_refl _)
  obtain ⟨n1, n2, n3⟩ := zN_fr (p.2.2.2.1 rfl 176 (by decide) (by decide))
  obtain ⟨t1, t2, t3, t4, t5, t6⟩ := zTk_ok p.1 hinj (fun j hj => by rw [n1]; exact (hlt j hj).1) p.2.2.2.2.2.2.2 c (Nat.le_refl _)
  apply Prod.ext
  · funext id k
    by_cases e : id = 195 ∨ id = 196
    · by_cases ej : ∃ j, j < c ∧ q j = k
      · obtain ⟨j, hj, rfl⟩ := ej
        have hq := hlt j hj
        have hm1 : M.1 196 (q j) = -1 := by
          rcases (zw_f hW hq.1).2.2.2.1 with ⟨y, -⟩ | ⟨-, y⟩
          · rw [hq.2] at y
            exact absurd y (by decide)
          · exact y
        rcases e with e | e
        · rw [e, (t5 j hj).1, hq.2]
        · rw [e, (t5 j hj).2, hm1]
      · have hne : ∀ j, j < c → q j ≠ k := fun j hj e2 => ej ⟨j, hj, e2⟩
        rcases e with e | e
        · rw [e, (t4 k hne).1, (p.2.2.1 k hne).1]
        · rw [e, (t4 k hne).2, (p.2.2.1 k hne).2]
    · rw [t2 id (by omega) (by omega), p.2.2.2.1 rfl id (by omega) (by omega)]
  · exact t3.trans p.2.2.2.2.1
theorem zo_takeBack {P m s : yb_S} {c : Nat} {q : Nat → Nat} (hW : zW P) (hA : zA P m s) (hc24 : c ≤ 24) (hinj : ∀ j k, j < c → k < c → q j = q k → j = k) (hlt : ∀ j, j < c → q j < nF P) (h01 : ∀ j, j < c → P.1 195 (q j) = 0 ∨ P.1 195 (q j) = 1) (hord : ∀ j, j < c → s.1 101 j = zi (q j)) (hc : s.1 100 4 = zi c) : zs_P (f_X6_takeBack s) (fun a => a.1 = (zTk q P c).2 ∧ zA (zTk q P c).1 m a.2) := by
  have h8 := zw_F8 hW
  unfold f_X6_takeBack l_X6_takeBack_4
  refine zs_up (fun k a => a.1 = (zTk q P k).2 ∧ a.2.1 = zi k ∧ zA (zTk q P k).1 m a.2.2 ∧ a.2.2.1 100 = s.1 100 ∧ a.2.2.1 101 = s.1 101) c ?_ yb_N 0 _ (Nat.zero_le _) (by unfold yb_N; omega) (by exact ⟨rfl, rfl, hA, rfl, rfl⟩)
  rintro k ⟨x, y, u⟩ rc hk ⟨i1, i2, i3, i4, i5⟩ hn
  dsimp only at i1 i2 i3 i4 i5
  subst i1 i2
  show zs_P (f_X6_takeBack_4 (fun x1 x2 s => rc (x1, x2, s)) (zTk q P k).2 (zi k) u) _
  unfold f_X6_takeBack_4 j_X6_takeBack_58
  rw [i4, hc]
  obtain ⟨p1, p2, p3, p4, p5, p6⟩ := zTk_ok hW hinj hlt h01 k hk
  obtain ⟨n1, n2, n3⟩ := zN_fr (p2 176 (by decide) (by decide))
  rcases Nat.lt_or_ge k c with hkc | hge
  · have hqk : q k < nF (zTk q P k).1 := by rw [n1]; exact hlt k hkc
    have hq24 : q k < 24 := Nat.lt_of_lt_of_le (hlt k hkc) h8
    rw [if_neg (by rw [zi_le (by omega) (by omega)]; omega), zi_rd (by omega) (by omega), Option.bind_some, i5, hord k hkc, zi_rd (by omega) (by omega), Option.bind_some, cq_28 i3 hqk]
    have es := zTk_s (q := q) (P := P) (k := k)
    by_cases c1 : (zTk q P k).1.1 195 (q k) = 1
    · rw [if_pos c1] at es
      rw [if_pos c1, zi_rd (by omega) (by omega), Option.bind_some, cq_22 i3 hqk]
      refine zs_bind (zs_fr (zo_unsettle1 p1 i3 hqk c1) (Q := fun v => v.1 100 = u.1 100 ∧ v.1 101 = u.1 101) (fun v e => ⟨zfr_unsettle e (by decide), zfr_unsettle e (by decide)⟩)) fun v hv => ?_
      rw [zi_succ]
      exact hn hkc _ ⟨by rw [es], rfl, by rw [es]; exact hv.1, hv.2.1.trans i4, hv.2.2.trans i5⟩
    · rw [if_neg c1] at es
      rw [if_neg c1, zi_succ]
      exact hn hkc _ ⟨by rw [es], rfl, by rw [es]; exact i3, i4, i5⟩
  · have hkl := Nat.le_antisymm hk hge
    subst hkl
    rw [if_pos (Int32.le_refl _)]
    exact zs_ret ⟨rfl, i3⟩
/-- the reference puts all back who were housed nowhere -/
def zRs (M P : yb_S) : Nat → yb_S
  | 0 => P
  | k + 1 => if M.1 195 k = 0 then zUn (zRs M P k) k else zRs M P k
theorem zRs_s {M P : yb_S} {k : Nat} : zRs M P (k + 1) = if M.1 195 k = 0 then zUn (zRs M P k) k else zRs M P k := rfl
theorem zRs_ok {M P : yb_S} (hW : zW P) (hN : nF P = nF M) : ∀ k, k ≤ nF M → zW (zRs M P k) ∧ (∀ id, id ≠ 195 → id ≠ 196 → (zRs M P k).1 id = P.1 id) ∧ (zRs M P k).2 = P.2 ∧ (∀ f, k ≤ f ∨ M.1 195 f ≠ 0 → (zRs M P k).1 195 f = P.1 195 f ∧ (zRs M P k).1 196 f = P.1 196 f) ∧ ∀ f, f < k → M.1 195 f = 0 → (zRs M P k).1 195 f = 0 ∧ (zRs M P k).1 196 f = -1 := by
  intro k
  induction k with
  | zero => exact fun _ => ⟨hW, fun _ _ _ => rfl, rfl, fun _ _ => ⟨rfl, rfl⟩, fun j hj => absurd hj (Nat.not_lt_zero _)⟩
  | succ k ih =>
    intro hk
    obtain ⟨p1, p2, p3, p4, p5⟩ := ih (by omega)
    obtain ⟨n1, n2, n3⟩ := zN_fr (p2 176 (by decide) (by decide))
    rw [zRs_s]
    by_cases c1 : M.1 195 k = 0
    · rw [if_pos c1]
      refine ⟨zUn_W p1 (by rw [n1, hN]; omega), fun id h1 h2 => ?_, p3, fun f hf => ?_, fun f hf h0 => ?_⟩
      · rw [zHous_c zUn_h h1 h2]
        exact p2 id h1 h2
      · have hne : f ≠ k := fun e => by
          rcases hf with hf | hf
          · omega
          · exact hf (by rw [e]; exact c1)
        rw [zUn_h.1 195 f (Or.inr hne), zUn_h.1 196 f (Or.inr hne)]
        exact p4 f (by
          rcases hf with hf | hf
          · exact Or.inl (by omega)
          · exact Or.inr hf)
      · by_cases e : f = k
        · rw [e]
          exact zUn_1
        · rw [zUn_h.1 195 f (Or.inr e), zUn_h.1 196 f (Or.inr e)]
          exact p5 f (by omega) h0
    · rw [if_neg c1]
      refine ⟨p1, p2, p3, fun f hf => p4 f (by
          rcases hf with hf | hf
          · exact Or.inl (by omega)
          · exact Or.inr hf), fun f hf h0 => ?_⟩
      by_cases e : f = k
      · rw [e] at h0
        exact absurd h0 c1
      · exact p5 f (by omega) h0
theorem zQ_hi {M o s t : yb_S} (h : zQ M o s) (e : ∀ id, id < 603 → t.1 id = s.1 id) (e2 : t.2 = s.2) : zQ M o t := by
  refine ⟨Eq.trans ?_ h.1, Eq.trans ?_ h.2.1, zC_congr (fun a q1 q2 => e a (by omega)) (congrFun (e 176 (by decide)) _) (congrFun (e 176 (by decide)) _) (congrFun (e 176 (by decide)) _) (congrFun (e 176 (by decide)) _) h.2.2⟩
  · apply Prod.ext
    · funext id k
      show (if zeP id k then t.1 id k else 0) = (if zeP id k then s.1 id k else 0)
      by_cases hk : id < 603
      · rw [e id hk]
      · rw [zeP_f (by omega)]
        rfl
    · show (fun id k => if 176 ≤ id ∧ id < 603 then t.2 id k else 0) = (fun id k => if 176 ≤ id ∧ id < 603 then s.2 id k else 0)
      rw [e2]
  · apply Prod.ext
    · funext id k
      show (if id < 176 then t.1 id k else 0) = (if id < 176 then s.1 id k else 0)
      by_cases hk : id < 176
      · rw [e id (by omega)]
      · rw [if_neg hk, if_neg hk]
    · show (fun id k => if id < 176 then t.2 id k else 0) = (fun id k => if id < 176 then s.2 id k else 0)
      rw [e2]
theorem zu_bk {M : yb_S} {x : Int32} (h : M.1 176 58 = -1) : yb_pI (yb_pI M 176 58 x) 176 58 (-1) = M := by
  apply Prod.ext
  · funext id k
    rw [zu_rd, zu_rd]
    by_cases e : id = 176
    · rw [if_pos e, if_pos e]
      by_cases e2 : k = 58
      · rw [if_pos e2, e, e2, h]
      · rw [if_neg e2, if_neg e2]
    · rw [if_neg e, if_neg e]
  · rfl
