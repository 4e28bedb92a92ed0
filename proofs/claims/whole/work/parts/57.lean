/-! a day: the nights in the hall -/
theorem zk_nite {o M : yb_S} {n : Nat} {x : Int32} (hn : n < nF M) (hW : zW M) (hR : zR o M) : zW (yb_pI M 197 n x) ∧ zR (yb_pI o 31 n x) (yb_pI M 197 n x) := by
  obtain ⟨w1, w2, w3, w4, w5, w6, w7, w8, w9, w10, w11, w12, w13, w14⟩ := hW
  obtain ⟨r1, r2, r3, r4, r5, r6, r7, r8, r9, r10, r11, r12, r13⟩ := hR
  have bH : (M.1 176 15).toNatClampNeg ≤ 24 := w1.2.2.2.1
  have bF : (M.1 176 27).toNatClampNeg ≤ 24 := w1.2.2.2.2.2.1
  have bX : (M.1 176 44).toNatClampNeg ≤ 500 := w2.2.1
  have bS : (M.1 176 54).toNatClampNeg ≤ 10 := w2.2.2.2.1
  have bD : (M.1 176 7).toNatClampNeg ≤ 200 := w2.2.2.2.2.2.1
  refine ⟨⟨?_, ?_, ?_, ?_, ?_, ?_, ?_, ?_, ?_, ?_, ?_, ?_, ?_, ?_⟩, ?_, ?_, ?_, ?_, ?_, ?_, ?_, ?_, ?_, ?_, ?_, ?_, ?_⟩
  · simpa (disch := omega) only [zRt, zRc, zRh, zRf, zRa, zRr, zRk, zRl, zRn, zRx, zRp, zRb, zRg, zW1, zW2, zWt, zWh, zWf, zWn, zWu, zWa, zWr, zWx, zWs, zWb, zWp, zWg, nT, nH, nF, nR, nK, nX, nS, nD, nB, nG, zTown, zPup, zHeads, zRooms, zThere, zHall, zLodg, zLodger, zOf, zHit, zFinds, zKin, zDayH, zu_ne, zu_nef, zu_eq, zu_id, zu_rl, zu_rdL, zu_neL, zu_idL, ↓reduceIte, Nat.reduceEqDiff] using w1
  · simpa (disch := omega) only [zRt, zRc, zRh, zRf, zRa, zRr, zRk, zRl, zRn, zRx, zRp, zRb, zRg, zW1, zW2, zWt, zWh, zWf, zWn, zWu, zWa, zWr, zWx, zWs, zWb, zWp, zWg, nT, nH, nF, nR, nK, nX, nS, nD, nB, nG, zTown, zPup, zHeads, zRooms, zThere, zHall, zLodg, zLodger, zOf, zHit, zFinds, zKin, zDayH, zu_ne, zu_nef, zu_eq, zu_id, zu_rl, zu_rdL, zu_neL, zu_idL, ↓reduceIte, Nat.reduceEqDiff] using w2
  · simpa (disch := omega) only [zRt, zRc, zRh, zRf, zRa, zRr, zRk, zRl, zRn, zRx, zRp, zRb, zRg, zW1, zW2, zWt, zWh, zWf, zWn, zWu, zWa, zWr, zWx, zWs, zWb, zWp, zWg, nT, nH, nF, nR, nK, nX, nS, nD, nB, nG, zTown, zPup, zHeads, zRooms, zThere, zHall, zLodg, zLodger, zOf, zHit, zFinds, zKin, zDayH, zu_ne, zu_nef, zu_eq, zu_id, zu_rl, zu_rdL, zu_neL, zu_idL, ↓reduceIte, Nat.reduceEqDiff] using w3
  · simpa (disch := omega) only [zRt, zRc, zRh, zRf, zRa, zRr, zRk, zRl, zRn, zRx, zRp, zRb, zRg, zW1, zW2, zWt, zWh, zWf, zWn, zWu, zWa, zWr, zWx, zWs, zWb, zWp, zWg, nT, nH, nF, nR, nK, nX, nS, nD, nB, nG, zTown, zPup, zHeads, zRooms, zThere, zHall, zLodg, zLodger, zOf, zHit, zFinds, zKin, zDayH, zu_ne, zu_nef, zu_eq, zu_id, zu_rl, zu_rdL, zu_neL, zu_idL, ↓reduceIte, Nat.reduceEqDiff] using w4
  · simpa (disch := omega) only [zRt, zRc, zRh, zRf, zRa, zRr, zRk, zRl, zRn, zRx, zRp, zRb, zRg, zW1, zW2, zWt, zWh, zWf, zWn, zWu, zWa, zWr, zWx, zWs, zWb, zWp, zWg, nT, nH, nF, nR, nK, nX, nS, nD, nB, nG, zTown, zPup, zHeads, zRooms, zThere, zHall, zLodg, zLodger, zOf, zHit, zFinds, zKin, zDayH, zu_ne, zu_nef, zu_eq, zu_id, zu_rl, zu_rdL, zu_neL, zu_idL, ↓reduceIte, Nat.reduceEqDiff] using w5
  · refine ⟨fun f hf => ?_, ?_⟩
    · have hf2 : nF M ≤ f := by
        unfold nF at hf ⊢
        rw [zu_ne (by decide)] at hf
        exact hf
      rw [zu_id, if_neg (by omega)]
      exact w6.1 f hf2
    · have q := w6.2
      simpa (disch := omega) only [zRt, zRc, zRh, zRf, zRa, zRr, zRk, zRl, zRn, zRx, zRp, zRb, zRg, zW1, zW2, zWt, zWh, zWf, zWn, zWu, zWa, zWr, zWx, zWs, zWb, zWp, zWg, nT, nH, nF, nR, nK, nX, nS, nD, nB, nG, zTown, zPup, zHeads, zRooms, zThere, zHall, zLodg, zLodger, zOf, zHit, zFinds, zKin, zDayH, zu_ne, zu_nef, zu_eq, zu_id, zu_rl, zu_rdL, zu_neL, zu_idL, ↓reduceIte, Nat.reduceEqDiff] using q
  · simpa (disch := omega) only [zRt, zRc, zRh, zRf, zRa, zRr, zRk, zRl, zRn, zRx, zRp, zRb, zRg, zW1, zW2, zWt, zWh, zWf, zWn, zWu, zWa, zWr, zWx, zWs, zWb, zWp, zWg, nT, nH, nF, nR, nK, nX, nS, nD, nB, nG, zTown, zPup, zHeads, zRooms, zThere, zHall, zLodg, zLodger, zOf, zHit, zFinds, zKin, zDayH, zu_ne, zu_nef, zu_eq, zu_id, zu_rl, zu_rdL, zu_neL, zu_idL, ↓reduceIte, Nat.reduceEqDiff] using w7
  · simpa (disch := omega) only [zRt, zRc, zRh, zRf, zRa, zRr, zRk, zRl, zRn, zRx, zRp, zRb, zRg, zW1, zW2, zWt, zWh, zWf, zWn, zWu, zWa, zWr, zWx, zWs, zWb, zWp, zWg, nT, nH, nF, nR, nK, nX, nS, nD, nB, nG, zTown, zPup, zHeads, zRooms, zThere, zHall, zLodg, zLodger, zOf, zHit, zFinds, zKin, zDayH, zu_ne, zu_nef, zu_eq, zu_id, zu_rl, zu_rdL, zu_neL, zu_idL, ↓reduceIte, Nat.reduceEqDiff] using w8
  · simpa (disch := omega) only [zRt, zRc, zRh, zRf, zRa, zRr, zRk, zRl, zRn, zRx, zRp, zRb, zRg, zW1, zW2, zWt, zWh, zWf, zWn, zWu, zWa, zWr, zWx, zWs, zWb, zWp, zWg, nT, nH, nF, nR, nK, nX, nS, nD, nB, nG, zTown, zPup, zHeads, zRooms, zThere, zHall, zLodg, zLodger, zOf, zHit, zFinds, zKin, zDayH, zu_ne, zu_nef, zu_eq, zu_id, zu_rl, zu_rdL, zu_neL, zu_idL, ↓reduceIte, Nat.reduceEqDiff] using w9
  · simpa (disch := omega) only [zRt, zRc, zRh, zRf, zRa, zRr, zRk, zRl, zRn, zRx, zRp, zRb, zRg, zW1, zW2, zWt, zWh, zWf, zWn, zWu, zWa, zWr, zWx, zWs, zWb, zWp, zWg, nT, nH, nF, nR, nK, nX, nS, nD, nB, nG, zTown, zPup, zHeads, zRooms, zThere, zHall, zLodg, zLodger, zOf, zHit, zFinds, zKin, zDayH, zu_ne, zu_nef, zu_eq, zu_id, zu_rl, zu_rdL, zu_neL, zu_idL, ↓reduceIte, Nat.reduceEqDiff] using w10
  · simpa (disch := omega) only [zRt, zRc, zRh, zRf, zRa, zRr, zRk, zRl, zRn, zRx, zRp, zRb, zRg, zW1, zW2, zWt, zWh, zWf, zWn, zWu, zWa, zWr, zWx, zWs, zWb, zWp, zWg, nT, nH, nF, nR, nK, nX, nS, nD, nB, nG, zTown, zPup, zHeads, zRooms, zThere, zHall, zLodg, zLodger, zOf, zHit, zFinds, zKin, zDayH, zu_ne, zu_nef, zu_eq, zu_id, zu_rl, zu_rdL, zu_neL, zu_idL, ↓reduceIte, Nat.reduceEqDiff] using w11
  · simpa (disch := omega) only [zRt, zRc, zRh, zRf, zRa, zRr, zRk, zRl, zRn, zRx, zRp, zRb, zRg, zW1, zW2, zWt, zWh, zWf, zWn, zWu, zWa, zWr, zWx, zWs, zWb, zWp, zWg, nT, nH, nF, nR, nK, nX, nS, nD, nB, nG, zTown, zPup, zHeads, zRooms, zThere, zHall, zLodg, zLodger, zOf, zHit, zFinds, zKin, zDayH, zu_ne, zu_nef, zu_eq, zu_id, zu_rl, zu_rdL, zu_neL, zu_idL, ↓reduceIte, Nat.reduceEqDiff] using w12
  · simpa (disch := omega) only [zRt, zRc, zRh, zRf, zRa, zRr, zRk, zRl, zRn, zRx, zRp, zRb, zRg, zW1, zW2, zWt, zWh, zWf, zWn, zWu, zWa, zWr, zWx, zWs, zWb, zWp, zWg, nT, nH, nF, nR, nK, nX, nS, nD, nB, nG, zTown, zPup, zHeads, zRooms, zThere, zHall, zLodg, zLodger, zOf, zHit, zFinds, zKin, zDayH, zu_ne, zu_nef, zu_eq, zu_id, zu_rl, zu_rdL, zu_neL, zu_idL, ↓reduceIte, Nat.reduceEqDiff] using w13
  · simpa (disch := omega) only [zRt, zRc, zRh, zRf, zRa, zRr, zRk, zRl, zRn, zRx, zRp, zRb, zRg, zW1, zW2, zWt, zWh, zWf, zWn, zWu, zWa, zWr, zWx, zWs, zWb, zWp, zWg, nT, nH, nF, nR, nK, nX, nS, nD, nB, nG, zTown, zPup, zHeads, zRooms, zThere, zHall, zLodg, zLodger, zOf, zHit, zFinds, zKin, zDayH, zu_ne, zu_nef, zu_eq, zu_id, zu_rl, zu_rdL, zu_neL, zu_idL, ↓reduceIte, Nat.reduceEqDiff] using w14
  · simpa (disch := omega) only [zRt, zRc, zRh, zRf, zRa, zRr, zRk, zRl, zRn, zRx, zRp, zRb, zRg, zW1, zW2, zWt, zWh, zWf, zWn, zWu, zWa, zWr, zWx, zWs, zWb, zWp, zWg, nT, nH, nF, nR, nK, nX, nS, nD, nB, nG, zTown, zPup, zHeads, zRooms, zThere, zHall, zLodg, zLodger, zOf, zHit, zFinds, zKin, zDayH, zu_ne, zu_nef, zu_eq, zu_id, zu_rl, zu_rdL, zu_neL, zu_idL, ↓reduceIte, Nat.reduceEqDiff] using r1
  · simpa (disch := omega) only [zRt, zRc, zRh, zRf, zRa, zRr, zRk, zRl, zRn, zRx, zRp, zRb, zRg, zW1, zW2, zWt, zWh, zWf, zWn, zWu, zWa, zWr, zWx, zWs, zWb, zWp, zWg, nT, nH, nF, nR, nK, nX, nS, nD, nB, nG, zTown, zPup, zHeads, zRooms, zThere, zHall, zLodg, zLodger, zOf, zHit, zFinds, zKin, zDayH, zu_ne, zu_nef, zu_eq, zu_id, zu_rl, zu_rdL, zu_neL, zu_idL, ↓reduceIte, Nat.reduceEqDiff] using r2
  · simpa (disch := omega) only [zRt, zRc, zRh, zRf, zRa, zRr, zRk, zRl, zRn, zRx, zRp, zRb, zRg, zW1, zW2, zWt, zWh, zWf, zWn, zWu, zWa, zWr, zWx, zWs, zWb, zWp, zWg, nT, nH, nF, nR, nK, nX, nS, nD, nB, nG, zTown, zPup, zHeads, zRooms, zThere, zHall, zLodg, zLodger, zOf, zHit, zFinds, zKin, zDayH, zu_ne, zu_nef, zu_eq, zu_id, zu_rl, zu_rdL, zu_neL, zu_idL, ↓reduceIte, Nat.reduceEqDiff] using r3
  · refine ⟨?_, fun k hk => ?_⟩
    · have q := r4.1
      simpa (disch := omega) only [zRt, zRc, zRh, zRf, zRa, zRr, zRk, zRl, zRn, zRx, zRp, zRb, zRg, zW1, zW2, zWt, zWh, zWf, zWn, zWu, zWa, zWr, zWx, zWs, zWb, zWp, zWg, nT, nH, nF, nR, nK, nX, nS, nD, nB, nG, zTown, zPup, zHeads, zRooms, zThere, zHall, zLodg, zLodger, zOf, zHit, zFinds, zKin, zDayH, zu_ne, zu_nef, zu_eq, zu_id, zu_rl, zu_rdL, zu_neL, zu_idL, ↓reduceIte, Nat.reduceEqDiff] using q
    · have hk2 : k < nF M := by
        unfold nF at hk ⊢
        rw [zu_ne (by decide)] at hk
        exact hk
      have q := r4.2 k hk2
      simp (disch := omega) only [zu_ne, zu_id]
      by_cases e : k = n
      · rw [if_pos e, if_pos e]
        exact ⟨q.1, q.2.1, q.2.2.1, q.2.2.2.1, q.2.2.2.2.1, q.2.2.2.2.2.1, q.2.2.2.2.2.2.1, q.2.2.2.2.2.2.2.1, rfl, q.2.2.2.2.2.2.2.2.2⟩
      · rw [if_neg e, if_neg e]
        exact q
  · simpa (disch := omega) only [zRt, zRc, zRh, zRf, zRa, zRr, zRk, zRl, zRn, zRx, zRp, zRb, zRg, zW1, zW2, zWt, zWh, zWf, zWn, zWu, zWa, zWr, zWx, zWs, zWb, zWp, zWg, nT, nH, nF, nR, nK, nX, nS, nD, nB, nG, zTown, zPup, zHeads, zRooms, zThere, zHall, zLodg, zLodger, zOf, zHit, zFinds, zKin, zDayH, zu_ne, zu_nef, zu_eq, zu_id, zu_rl, zu_rdL, zu_neL, zu_idL, ↓reduceIte, Nat.reduceEqDiff] using r5
  · simpa (disch := omega) only [zRt, zRc, zRh, zRf, zRa, zRr, zRk, zRl, zRn, zRx, zRp, zRb, zRg, zW1, zW2, zWt, zWh, zWf, zWn, zWu, zWa, zWr, zWx, zWs, zWb, zWp, zWg, nT, nH, nF, nR, nK, nX, nS, nD, nB, nG, zTown, zPup, zHeads, zRooms, zThere, zHall, zLodg, zLodger, zOf, zHit, zFinds, zKin, zDayH, zu_ne, zu_nef, zu_eq, zu_id, zu_rl, zu_rdL, zu_neL, zu_idL, ↓reduceIte, Nat.reduceEqDiff] using r6
  · simpa (disch := omega) only [zRt, zRc, zRh, zRf, zRa, zRr, zRk, zRl, zRn, zRx, zRp, zRb, zRg, zW1, zW2, zWt, zWh, zWf, zWn, zWu, zWa, zWr, zWx, zWs, zWb, zWp, zWg, nT, nH, nF, nR, nK, nX, nS, nD, nB, nG, zTown, zPup, zHeads, zRooms, zThere, zHall, zLodg, zLodger, zOf, zHit, zFinds, zKin, zDayH, zu_ne, zu_nef, zu_eq, zu_id, zu_rl, zu_rdL, zu_neL, zu_idL, ↓reduceIte, Nat.reduceEqDiff] using r7
  · simpa (disch := omega) only [zRt, zRc, zRh, zRf, zRa, zRr, zRk, zRl, zRn, zRx, zRp, zRb, zRg, zW1, zW2, zWt, zWh, zWf, zWn, zWu, zWa, zWr, zWx, zWs, zWb, zWp, zWg, nT, nH, nF, nR, nK, nX, nS, nD, nB, nG, zTown, zPup, zHeads, zRooms, zThere, zHall, zLodg, zLodger, zOf, zHit, zFinds, zKin, zDayH, zu_ne, zu_nef, zu_eq, zu_id, zu_rl, zu_rdL, zu_neL, zu_idL, ↓reduceIte, Nat.reduceEqDiff] using r8
  · simpa (disch := omega) only [zRt, zRc, zRh, zRf, zRa, zRr, zRk, zRl, zRn, zRx, zRp, zRb, zRg, zW1, zW2, zWt, zWh, zWf, zWn, zWu, zWa, zWr, zWx, zWs, zWb, zWp, zWg, nT, nH, nF, nR, nK, nX, nS, nD, nB, nG, zTown, zPup, zHeads, zRooms, zThere, zHall, zLodg, zLodger, zOf, zHit, zFinds, zKin, zDayH, zu_ne, zu_nef, zu_eq, zu_id, zu_rl, zu_rdL, zu_neL, zu_idL, ↓reduceIte, Nat.reduceEqDiff] using r9
  · simpa (disch := omega) only [zRt, zRc, zRh, zRf, zRa, zRr, zRk, zRl, zRn, zRx, zRp, zRb, zRg, zW1, zW2, zWt, zWh, zWf, zWn, zWu, zWa, zWr, zWx, zWs, zWb, zWp, zWg, nT, nH, nF, nR, nK, nX, nS, nD, nB, nG, zTown, zPup, zHeads, zRooms, zThere, zHall, zLodg, zLodger, zOf, zHit, zFinds, zKin, zDayH, zu_ne, zu_nef, zu_eq, zu_id, zu_rl, zu_rdL, zu_neL, zu_idL, ↓reduceIte, Nat.reduceEqDiff] using r10
  · simpa (disch := omega) only [zRt, zRc, zRh, zRf, zRa, zRr, zRk, zRl, zRn, zRx, zRp, zRb, zRg, zW1, zW2, zWt, zWh, zWf, zWn, zWu, zWa, zWr, zWx, zWs, zWb, zWp, zWg, nT, nH, nF, nR, nK, nX, nS, nD, nB, nG, zTown, zPup, zHeads, zRooms, zThere, zHall, zLodg, zLodger, zOf, zHit, zFinds, zKin, zDayH, zu_ne, zu_nef, zu_eq, zu_id, zu_rl, zu_rdL, zu_neL, zu_idL, ↓reduceIte, Nat.reduceEqDiff] using r11
  · simpa (disch := omega) only [zRt, zRc, zRh, zRf, zRa, zRr, zRk, zRl, zRn, zRx, zRp, zRb, zRg, zW1, zW2, zWt, zWh, zWf, zWn, zWu, zWa, zWr, zWx, zWs, zWb, zWp, zWg, nT, nH, nF, nR, nK, nX, nS, nD, nB, nG, zTown, zPup, zHeads, zRooms, zThere, zHall, zLodg, zLodger, zOf, zHit, zFinds, zKin, zDayH, zu_ne, zu_nef, zu_eq, zu_id, zu_rl, zu_rdL, zu_neL, zu_idL, ↓reduceIte, Nat.reduceEqDiff] using r12
  · simpa (disch := omega) only [zRt, zRc, zRh, zRf, zRa, zRr, zRk, zRl, zRn, zRx, zRp, zRb, zRg, zW1, zW2, zWt, zWh, zWf, zWn, zWu, zWa, zWr, zWx, zWs, zWb, zWp, zWg, nT, nH, nF, nR, nK, nX, nS, nD, nB, nG, zTown, zPup, zHeads, zRooms, zThere, zHall, zLodg, zLodger, zOf, zHit, zFinds, zKin, zDayH, zu_ne, zu_nef, zu_eq, zu_id, zu_rl, zu_rdL, zu_neL, zu_idL, ↓reduceIte, Nat.reduceEqDiff] using r13
theorem zk_niteW {M : yb_S} {n : Nat} {x : Int32} (hn : n < nF M) (hW : zW M) : zW (yb_pI M 197 n x) := by
  obtain ⟨w1, w2, w3, w4, w5, w6, w7, w8, w9, w10, w11, w12, w13, w14⟩ := hW
  have bH : (M.1 176 15).toNatClampNeg ≤ 24 := w1.2.2.2.1
  have bF : (M.1 176 27).toNatClampNeg ≤ 24 := w1.2.2.2.2.2.1
  have bX : (M.1 176 44).toNatClampNeg ≤ 500 := w2.2.1
  have bS : (M.1 176 54).toNatClampNeg ≤ 10 := w2.2.2.2.1
  have bD : (M.1 176 7).toNatClampNeg ≤ 200 := w2.2.2.2.2.2.1
  refine ⟨?_, ?_, ?_, ?_, ?_, ?_, ?_, ?_, ?_, ?_, ?_, ?_, ?_, ?_⟩
  · simpa (disch := omega) only [zRt, zRc, zRh, zRf, zRa, zRr, zRk, zRl, zRn, zRx, zRp, zRb, zRg, zW1, zW2, zWt, zWh, zWf, zWn, zWu, zWa, zWr, zWx, zWs, zWb, zWp, zWg, nT, nH, nF, nR, nK, nX, nS, nD, nB, nG, zTown, zPup, zHeads, zRooms, zThere, zHall, zLodg, zLodger, zOf, zHit, zFinds, zKin, zDayH, zu_ne, zu_nef, zu_eq, zu_id, zu_rl, zu_rdL, zu_neL, zu_idL, ↓reduceIte, Nat.reduceEqDiff] using w1
  · simpa (disch := omega) only [zRt, zRc, zRh, zRf, zRa, zRr, zRk, zRl, zRn, zRx, zRp, zRb, zRg, zW1, zW2, zWt, zWh, zWf, zWn, zWu, zWa, zWr, zWx, zWs, zWb, zWp, zWg, nT, nH, nF, nR, nK, nX, nS, nD, nB, nG, zTown, zPup, zHeads, zRooms, zThere, zHall, zLodg, zLodger, zOf, zHit, zFinds, zKin, zDayH, zu_ne, zu_nef, zu_eq, zu_id, zu_rl, zu_rdL, zu_neL, zu_idL, ↓reduceIte, Nat.reduceEqDiff] using w2
  · simpa (disch := omega) only [zRt, zRc, zRh, zRf, zRa, zRr, zRk, zRl, zRn, zRx, zRp, zRb, zRg, zW1, zW2, zWt, zWh, zWf, zWn, zWu, zWa, zWr, zWx, zWs, zWb, zWp, zWg, nT, nH, nF, nR, nK, nX, nS, nD, nB, nG, zTown, zPup, zHeads, zRooms, zThere, zHall, zLodg, zLodger, zOf, zHit, zFinds, zKin, zDayH, zu_ne, zu_nef, zu_eq, zu_id, zu_rl, zu_rdL, zu_neL, zu_idL, ↓reduceIte, Nat.reduceEqDiff] using w3
  · simpa (disch := omega) only [zRt, zRc, zRh, zRf, zRa, zRr, zRk, zRl, zRn, zRx, zRp, zRb, zRg, zW1, zW2, zWt, zWh, zWf, zWn, zWu, zWa, zWr, zWx, zWs, zWb, zWp, zWg, nT, nH, nF, nR, nK, nX, nS, nD, nB, nG, zTown, zPup, zHeads, zRooms, zThere, zHall, zLodg, zLodger, zOf, zHit, zFinds, zKin, zDayH, zu_ne, zu_nef, zu_eq, zu_id, zu_rl, zu_rdL, zu_neL, zu_idL, ↓reduceIte, Nat.reduceEqDiff] using w4
  · simpa (disch := omega) only [zRt, zRc, zRh, zRf, zRa, zRr, zRk, zRl, zRn, zRx, zRp, zRb, zRg, zW1, zW2, zWt, zWh, zWf, zWn, zWu, zWa, zWr, zWx, zWs, zWb, zWp, zWg, nT, nH, nF, nR, nK, nX, nS, nD, nB, nG, zTown, zPup, zHeads, zRooms, zThere, zHall, zLodg, zLodger, zOf, zHit, zFinds, zKin, zDayH, zu_ne, zu_nef, zu_eq, zu_id, zu_rl, zu_rdL, zu_neL, zu_idL, ↓reduceIte, Nat.reduceEqDiff] using w5
  · refine ⟨fun f hf => ?_, ?_⟩
    · have hf2 : nF M ≤ f := by
        unfold nF at hf ⊢
        rw [zu_ne (by decide)] at hf
        exact hf
      rw [zu_id, if_neg (by omega)]
      exact w6.1 f hf2
    · have q := w6.2
      simpa (disch := omega) only [zRt, zRc, zRh, zRf, zRa, zRr, zRk, zRl, zRn, zRx, zRp, zRb, zRg, zW1, zW2, zWt, zWh, zWf, zWn, zWu, zWa, zWr, zWx, zWs, zWb, zWp, zWg, nT, nH, nF, nR, nK, nX, nS, nD, nB, nG, zTown, zPup, zHeads, zRooms, zThere, zHall, zLodg, zLodger, zOf, zHit, zFinds, zKin, zDayH, zu_ne, zu_nef, zu_eq, zu_id, zu_rl, zu_rdL, zu_neL, zu_idL, ↓reduceIte, Nat.reduceEqDiff] using q
  · simpa (disch := omega) only [zRt, zRc, zRh, zRf, zRa, zRr, zRk, zRl, zRn, zRx, zRp, zRb, zRg, zW1, zW2, zWt, zWh, zWf, zWn, zWu, zWa, zWr, zWx, zWs, zWb, zWp, zWg, nT, nH, nF, nR, nK, nX, nS, nD, nB, nG, zTown, zPup, zHeads, zRooms, zThere, zHall, zLodg, zLodger, zOf, zHit, zFinds, zKin, zDayH, zu_ne, zu_nef, zu_eq, zu_id, zu_rl, zu_rdL, zu_neL, zu_idL, ↓reduceIte, Nat.reduceEqDiff] using w7
  · simpa (disch := omega) only [zRt, zRc, zRh, zRf, zRa, zRr, zRk, zRl, zRn, zRx, zRp, zRb, zRg, zW1, zW2, zWt, zWh, zWf, zWn, zWu, zWa, zWr, zWx, zWs, zWb, zWp, zWg, nT, nH, nF, nR, nK, nX, nS, nD, nB, nG, zTown, zPup, zHeads, zRooms, zThere, zHall, zLodg, zLodger, zOf, zHit, zFinds, zKin, zDayH, zu_ne, zu_nef, zu_eq, zu_id, zu_rl, zu_rdL, zu_neL, zu_idL, ↓reduceIte, Nat.reduceEqDiff] using w8
  · simpa (disch := omega) only [zRt, zRc, zRh, zRf, zRa, zRr, zRk, zRl, zRn, zRx, zRp, zRb, zRg, zW1, zW2, zWt, zWh, zWf, zWn, zWu, zWa, zWr, zWx, zWs, zWb, zWp, zWg, nT, nH, nF, nR, nK, nX, nS, nD, nB, nG, zTown, zPup, zHeads, zRooms, zThere, zHall, zLodg, zLodger, zOf, zHit, zFinds, zKin, zDayH, zu_ne, zu_nef, zu_eq, zu_id, zu_rl, zu_rdL, zu_neL, zu_idL, ↓reduceIte, Nat.reduceEqDiff] using w9
  · simpa (disch := omega) only [zRt, zRc, zRh, zRf, zRa, zRr, zRk, zRl, zRn, zRx, zRp, zRb, zRg, zW1, zW2, zWt, zWh, zWf, zWn, zWu, zWa, zWr, zWx, zWs, zWb, zWp, zWg, nT, nH, nF, nR, nK, nX, nS, nD, nB, nG, zTown, zPup, zHeads, zRooms, zThere, zHall, zLodg, zLodger, zOf, zHit, zFinds, zKin, zDayH, zu_ne, zu_nef, zu_eq, zu_id, zu_rl, zu_rdL, zu_neL, zu_idL, ↓reduceIte, Nat.reduceEqDiff] using w10
  · simpa (disch := omega) only [zRt, zRc, zRh, zRf, zRa, zRr, zRk, zRl, zRn, zRx, zRp, zRb, zRg, zW1, zW2, zWt, zWh, zWf, zWn, zWu, zWa, zWr, zWx, zWs, zWb, zWp, zWg, nT, nH, nF, nR, nK, nX, nS, nD, nB, nG, zTown, zPup, zHeads, zRooms, zThere, zHall, zLodg, zLodger, zOf, zHit, zFinds, zKin, zDayH, zu_ne, zu_nef, zu_eq, zu_id, zu_rl, zu_rdL, zu_neL, zu_idL, ↓reduceIte, Nat.reduceEqDiff] using w11
  · simpa (disch := omega) only [zRt, zRc, zRh, zRf, zRa, zRr, zRk, zRl, zRn, zRx, zRp, zRb, zRg, zW1, zW2, zWt, zWh, zWf, zWn, zWu, zWa, zWr, zWx, zWs, zWb, zWp, zWg, nT, nH, nF, nR, nK, nX, nS, nD, nB, nG, zTown, zPup, zHeads, zRooms, zThere, zHall, zLodg, zLodger, zOf, zHit, zFinds, zKin, zDayH, zu_ne, zu_nef, zu_eq, zu_id, zu_rl, zu_rdL, zu_neL, zu_idL, ↓reduceIte, Nat.reduceEqDiff] using w12
  · simpa (disch := omega) only [zRt, zRc, zRh, zRf, zRa, zRr, zRk, zRl, zRn, zRx, zRp, zRb, zRg, zW1, zW2, zWt, zWh, zWf, zWn, zWu, zWa, zWr, zWx, zWs, zWb, zWp, zWg, nT, nH, nF, nR, nK, nX, nS, nD, nB, nG, zTown, zPup, zHeads, zRooms, zThere, zHall, zLodg, zLodger, zOf, zHit, zFinds, zKin, zDayH, zu_ne, zu_nef, zu_eq, zu_id, zu_rl, zu_rdL, zu_neL, zu_idL, ↓reduceIte, Nat.reduceEqDiff] using w13
  · simpa (disch := omega) only [zRt, zRc, zRh, zRf, zRa, zRr, zRk, zRl, zRn, zRx, zRp, zRb, zRg, zW1, zW2, zWt, zWh, zWf, zWn, zWu, zWa, zWr, zWx, zWs, zWb, zWp, zWg, nT, nH, nF, nR, nK, nX, nS, nD, nB, nG, zTown, zPup, zHeads, zRooms, zThere, zHall, zLodg, zLodger, zOf, zHit, zFinds, zKin, zDayH, zu_ne, zu_nef, zu_eq, zu_id, zu_rl, zu_rdL, zu_neL, zu_idL, ↓reduceIte, Nat.reduceEqDiff] using w14
/-- the first k have one night more, where they are in the hall -/
def zNi (M : yb_S) (k : Nat) : yb_S := (fun id f => if id = 197 ∧ f < k ∧ M.1 195 f = 0 then M.1 197 f + 1 else M.1 id f, M.2)
theorem zNi_c {M : yb_S} {k id : Nat} (h : id ≠ 197) : (zNi M k).1 id = M.1 id := funext fun f => if_neg (fun q => h q.1)
theorem zNi_0 {M : yb_S} : zNi M 0 = M := by
  apply Prod.ext
  · funext id f
    exact if_neg (fun q => absurd q.2.1 (Nat.not_lt_zero _))
  · rfl
theorem zNi_k {M : yb_S} {k : Nat} : (zNi M k).1 197 k = M.1 197 k := if_neg (fun q => absurd q.2.1 (Nat.lt_irrefl _))
theorem zNi_s {M : yb_S} {k : Nat} : zNi M (k + 1) = if M.1 195 k = 0 then yb_pI (zNi M k) 197 k (M.1 197 k + 1) else zNi M k := by
  split
  · rename_i h
    apply Prod.ext
    · funext id f
      rw [zu_rd]
      by_cases e : id = 197
      · subst e
        rw [if_pos rfl]
        by_cases e2 : f = k
        · subst e2
          rw [if_pos rfl]
          exact if_pos ⟨rfl, by omega, h⟩
        · rw [if_neg e2]
          show (if 197 = 197 ∧ f < k + 1 ∧ M.1 195 f = 0 then M.1 197 f + 1 else M.1 197 f) = (if 197 = 197 ∧ f < k ∧ M.1 195 f = 0 then M.1 197 f + 1 else M.1 197 f)
          by_cases e3 : f < k ∧ M.1 195 f = 0
          · rw [if_pos ⟨rfl, by omega, e3.2⟩, if_pos ⟨rfl, e3.1, e3.2⟩]
          · rw [if_neg (fun q => e3 ⟨by omega, q.2.2⟩), if_neg (fun q => e3 q.2)]
      · rw [if_neg e, zNi_c e, zNi_c e]
    · rfl
  · rename_i h
    apply Prod.ext
    · funext id f
      show (if id = 197 ∧ f < k + 1 ∧ M.1 195 f = 0 then M.1 197 f + 1 else M.1 id f) = (if id = 197 ∧ f < k ∧ M.1 195 f = 0 then M.1 197 f + 1 else M.1 id f)
      by_cases e3 : id = 197 ∧ f < k ∧ M.1 195 f = 0
      · rw [if_pos e3, if_pos ⟨e3.1, by omega, e3.2.2⟩]
      · rw [if_neg e3, if_neg (fun q => e3 ⟨q.1, by
          have : f ≠ k := fun e => h (by rw [← e]; exact q.2.2)
          omega, q.2.2⟩)]
    · rfl
theorem zo_nights {M m s : yb_S} (hW : zW M) (hA : zA M m s) : zs_P (f_X8_countNights s) (fun u => zW (zNi M (nF M)) ∧ zA (zNi M (nF M)) m u) := by
  have h8 := zw_F8 hW
  unfold f_X8_countNights l_X8_countNights_2
  refine zs_up (fun k a => a.1 = zi k ∧ zW (zNi M k) ∧ zA (zNi M k) m a.2) (nF M) ?_ yb_N 0 _ (Nat.zero_le _) (by unfold yb_N; omega) (by
    rw [zNi_0]
    exact ⟨rfl, hW, hA⟩)
  rintro k ⟨x, u⟩ rc hk ⟨i1, i2, i3⟩ hn
  dsimp only at i1 i2 i3
  subst i1
  show zs_P (f_X8_countNights_2 (fun x1 s => rc (x1, s)) (zi k) u) _
  unfold f_X8_countNights_2 j_X8_countNights_38
  obtain ⟨n1, n2, n3⟩ := zN_fr (M := M) (N := zNi M k) (zNi_c (by decide))
  rw [cq_F i3, zw_F i2, n1]
  rcases Nat.lt_or_ge k (nF M) with hlt | hge
  · have hkN : k < nF (zNi M k) := by rw [n1]; exact hlt
    have es := zNi_s (M := M) (k := k)
    rw [if_neg (by rw [zi_le (by omega) (by omega)]; omega), zi_rd (by omega) (by omega), Option.bind_some, cq_28 i3 hkN, zNi_c (by decide)]
    by_cases c : M.1 195 k = 0
    · rw [if_pos c] at es ⊢
      rw [zi_rd (by omega) (by omega), Option.bind_some, cq_31 i3 hkN, zNi_k, zi_wr (by omega) (by omega), Option.bind_some, zi_succ]
      have hk2 := zk_nite (x := M.1 197 k + 1) hkN i2 i3.1
      refine hn hlt _ ⟨rfl, by rw [es]; exact hk2.1, by
        rw [es]
        refine ⟨?_, ?_⟩
        · simp (disch := omega) only [zP_e, zP_s, zP_k, zP_k0, zP_Ls, zP_Le, zO_e, zO_s, zO_92, zO_92s, zO_100, zO_100s, zO_Ls, zO_Le]
          exact hk2.2
        · rw [zHm_pI (by decide)]
          exact i3.2⟩
    · rw [if_neg c] at es ⊢
      rw [zi_succ]
      exact hn hlt _ ⟨rfl, by rw [es]; exact i2, by rw [es]; exact i3⟩
  · have hkl := Nat.le_antisymm hk hge
    subst hkl
    rw [if_pos (Int32.le_refl _)]
    exact zs_ret ⟨i2, i3⟩
theorem zm_nights {M o s : yb_S} (hW : zW M) (hQ : zQ M o s) {Q : yb_S → Prop} (K : ∀ u, zW (zNi M (nF M)) → zQ (zNi M (nF M)) o u → zs_P (l_X12_day_85 yb_N 0 u) Q) : zs_P (l_X12_day_50 yb_N 0 s) Q := by
  have h8 := zw_F8 hW
  unfold l_X12_day_50
  refine zs_up (fun k a => a.1 = zi k ∧ zW (zNi M k) ∧ zQ (zNi M k) o a.2) (nF M) ?_ yb_N 0 _ (Nat.zero_le _) (by unfold yb_N; omega) (by
    rw [zNi_0]
    exact ⟨rfl, hW, hQ⟩)
  rintro k ⟨x, u⟩ rc hk ⟨i1, i2, i3⟩ hn
  dsimp only at i1 i2 i3
  subst i1
  show zs_P (f_X12_day_50 (fun x1 s => rc (x1, s)) (zi k) u) _
  unfold f_X12_day_50 j_X12_day_77
  obtain ⟨n1, n2, n3⟩ := zN_fr (M := M) (N := zNi M k) (zNi_c (by decide))
  rw [zqk i3 (by omega), zw_F i2, n1]
  rcases Nat.lt_or_ge k (nF M) with hlt | hge
  · have hkN : k < nF (zNi M k) := by rw [n1]; exact hlt
    have es := zNi_s (M := M) (k := k)
    rw [if_neg (by rw [zi_le (by omega) (by omega)]; omega), zi_rd (by omega) (by omega), Option.bind_some, zq i3 (by omega), zNi_c (by decide)]
    by_cases c : M.1 195 k = 0
    · rw [if_pos c] at es ⊢
      rw [zi_rd (by omega) (by omega), Option.bind_some, zq i3 (by omega), zNi_k, zi_wr (by omega) (by omega), Option.bind_some, zi_succ]
      exact hn hlt _ ⟨rfl, by rw [es]; exact zk_niteW hkN i2, by rw [es]; exact zQ_e i3 (by omega)⟩
    · rw [if_neg c] at es ⊢
      rw [zi_succ]
      exact hn hlt _ ⟨rfl, by rw [es]; exact i2, by rw [es]; exact i3⟩
  · have hkl := Nat.le_antisymm hk hge
    subst hkl
    rw [if_pos (Int32.le_refl _)]
    exact K u i2 i3
