/-! bytes come; beds foretold; the start -/
theorem zby_lo (y : Int32) : vp_nar .byte (y.toInt8.toInt32) = y.toInt8.toInt32 := by
  show ((y.toInt8.toInt32).toInt8).toInt32 = _
  rw [Int8.toInt8_toInt32]
theorem zby_in (y : Int32) : -128 ≤ y.toInt8.toInt32 ∧ y.toInt8.toInt32 ≤ 127 := by
  have h1 := Int8.le_toInt y.toInt8
  have h2 := Int8.toInt_lt y.toInt8
  refine ⟨Int32.le_iff_toInt_le.mpr ?_, Int32.le_iff_toInt_le.mpr ?_⟩
  · rw [Int8.toInt_toInt32]
    show (-128 : Int) ≤ _
    omega
  · rw [Int8.toInt_toInt32]
    show _ ≤ (127 : Int)
    omega
theorem z255 {i : Nat} (hi : i < 32) : (255 : Int32).toBitVec.getLsbD i = decide (i < 8) := by
  have e : (255 : Int32).toBitVec.getLsbD i = (255 : Nat).testBit i := zi_bit (a := 255) hi
  rw [e, show (255 : Nat) = 2 ^ 8 - 1 from rfl, Nat.testBit_two_pow_sub_one]
theorem zby_and (y : Int32) : y.toInt8.toInt32 &&& 255 = y &&& 255 := by
  apply Int32.toBitVec_inj.mp
  apply BitVec.eq_of_getLsbD_eq
  intro i hi
  rw [Int32.toBitVec_and, BitVec.getLsbD_and, Int32.toBitVec_and, BitVec.getLsbD_and, z255 hi, Int8.toBitVec_toInt32, Int32.toBitVec_toInt8, BitVec.getLsbD_signExtend, BitVec.getLsbD_signExtend]
  by_cases h : i < 8
  · simp [h, hi]
  · simp [h]
theorem zk_byte {o M : yb_S} {n : Nat} {b : Int32} (hn : n = nX M) (h8 : n < 500) (hb : -128 ≤ b ∧ b ≤ 127) (hW : zW M) (hR : zR o M) : zW (yb_pI (yb_pI M 242 n b) 176 44 (zi (n + 1))) ∧ zR (yb_pI (yb_pI o 96 n (b &&& 255)) 92 0 (zi (n + 1))) (yb_pI (yb_pI M 242 n b) 176 44 (zi (n + 1))) := by
  obtain ⟨w1, w2, w3, w4, w5, w6, w7, w8, w9, w10, w11, w12, w13, w14⟩ := hW
  obtain ⟨r1, r2, r3, r4, r5, r6, r7, r8, r9, r10, r11, r12, r13⟩ := hR
  have bH : (M.1 176 15).toNatClampNeg ≤ 24 := w1.2.2.2.1
  have bF : (M.1 176 27).toNatClampNeg ≤ 24 := w1.2.2.2.2.2.1
  have bX : (M.1 176 44).toNatClampNeg ≤ 500 := w2.2.1
  have bS : (M.1 176 54).toNatClampNeg ≤ 10 := w2.2.2.2.1
  have bD : (M.1 176 7).toNatClampNeg ≤ 200 := w2.2.2.2.2.2.1
  refine ⟨⟨?_, ?_, ?_, ?_, ?_, ?_, ?_, ?_, ?_, ?_, ?_, ?_, ?_, ?_⟩, ?_, ?_, ?_, ?_, ?_, ?_, ?_, ?_, ?_, ?_, ?_, ?_, ?_⟩
  · simpa (disch := omega) only [zRt, zRc, zRh, zRf, zRa, zRr, zRk, zRl, zRn, zRx, zRp, zRb, zRg, zW1, zW2, zWt, zWh, zWf, zWn, zWu, zWa, zWr, zWx, zWs, zWb, zWp, zWg, nT, nH, nF, nR, nK, nX, nS, nD, nB, nG, zTown, zPup, zHeads, zRooms, zThere, zHall, zLodg, zLodger, zOf, zHit, zFinds, zKin, zDayH, zu_ne, zu_nef, zu_eq, zu_id, zu_rl, zu_rdL, zu_neL, zu_idL, ↓reduceIte, Nat.reduceEqDiff] using w1
  · (have hh := w2; simp (disch := omega) only [zRt, zRc, zRh, zRf, zRa, zRr, zRk, zRl, zRn, zRx, zRp, zRb, zRg, zW1, zW2, zWt, zWh, zWf, zWn, zWu, zWa, zWr, zWx, zWs, zWb, zWp, zWg, nT, nH, nF, nR, nK, nX, nS, nD, nB, nG, zTown, zPup, zHeads, zRooms, zThere, zHall, zLodg, zLodger, zOf, zHit, zFinds, zKin, zDayH, zi_tn, zu_ne, zu_nef, zu_eq, zu_id, zu_rl, zu_rdL, zu_neL, zu_idL, ↓reduceIte, Nat.reduceEqDiff] at hh hn ⊢; grind)
  · simpa (disch := omega) only [zRt, zRc, zRh, zRf, zRa, zRr, zRk, zRl, zRn, zRx, zRp, zRb, zRg, zW1, zW2, zWt, zWh, zWf, zWn, zWu, zWa, zWr, zWx, zWs, zWb, zWp, zWg, nT, nH, nF, nR, nK, nX, nS, nD, nB, nG, zTown, zPup, zHeads, zRooms, zThere, zHall, zLodg, zLodger, zOf, zHit, zFinds, zKin, zDayH, zu_ne, zu_nef, zu_eq, zu_id, zu_rl, zu_rdL, zu_neL, zu_idL, ↓reduceIte, Nat.reduceEqDiff] using w3
  · simpa (disch := omega) only [zRt, zRc, zRh, zRf, zRa, zRr, zRk, zRl, zRn, zRx, zRp, zRb, zRg, zW1, zW2, zWt, zWh, zWf, zWn, zWu, zWa, zWr, zWx, zWs, zWb, zWp, zWg, nT, nH, nF, nR, nK, nX, nS, nD, nB, nG, zTown, zPup, zHeads, zRooms, zThere, zHall, zLodg, zLodger, zOf, zHit, zFinds, zKin, zDayH, zu_ne, zu_nef, zu_eq, zu_id, zu_rl, zu_rdL, zu_neL, zu_idL, ↓reduceIte, Nat.reduceEqDiff] using w4
  · simpa (disch := omega) only [zRt, zRc, zRh, zRf, zRa, zRr, zRk, zRl, zRn, zRx, zRp, zRb, zRg, zW1, zW2, zWt, zWh, zWf, zWn, zWu, zWa, zWr, zWx, zWs, zWb, zWp, zWg, nT, nH, nF, nR, nK, nX, nS, nD, nB, nG, zTown, zPup, zHeads, zRooms, zThere, zHall, zLodg, zLodger, zOf, zHit, zFinds, zKin, zDayH, zu_ne, zu_nef, zu_eq, zu_id, zu_rl, zu_rdL, zu_neL, zu_idL, ↓reduceIte, Nat.reduceEqDiff] using w5
  · simpa (disch := omega) only [zRt, zRc, zRh, zRf, zRa, zRr, zRk, zRl, zRn, zRx, zRp, zRb, zRg, zW1, zW2, zWt, zWh, zWf, zWn, zWu, zWa, zWr, zWx, zWs, zWb, zWp, zWg, nT, nH, nF, nR, nK, nX, nS, nD, nB, nG, zTown, zPup, zHeads, zRooms, zThere, zHall, zLodg, zLodger, zOf, zHit, zFinds, zKin, zDayH, zu_ne, zu_nef, zu_eq, zu_id, zu_rl, zu_rdL, zu_neL, zu_idL, ↓reduceIte, Nat.reduceEqDiff] using w6
  · simpa (disch := omega) only [zRt, zRc, zRh, zRf, zRa, zRr, zRk, zRl, zRn, zRx, zRp, zRb, zRg, zW1, zW2, zWt, zWh, zWf, zWn, zWu, zWa, zWr, zWx, zWs, zWb, zWp, zWg, nT, nH, nF, nR, nK, nX, nS, nD, nB, nG, zTown, zPup, zHeads, zRooms, zThere, zHall, zLodg, zLodger, zOf, zHit, zFinds, zKin, zDayH, zu_ne, zu_nef, zu_eq, zu_id, zu_rl, zu_rdL, zu_neL, zu_idL, ↓reduceIte, Nat.reduceEqDiff] using w7
  · simpa (disch := omega) only [zRt, zRc, zRh, zRf, zRa, zRr, zRk, zRl, zRn, zRx, zRp, zRb, zRg, zW1, zW2, zWt, zWh, zWf, zWn, zWu, zWa, zWr, zWx, zWs, zWb, zWp, zWg, nT, nH, nF, nR, nK, nX, nS, nD, nB, nG, zTown, zPup, zHeads, zRooms, zThere, zHall, zLodg, zLodger, zOf, zHit, zFinds, zKin, zDayH, zu_ne, zu_nef, zu_eq, zu_id, zu_rl, zu_rdL, zu_neL, zu_idL, ↓reduceIte, Nat.reduceEqDiff] using w8
  · simpa (disch := omega) only [zRt, zRc, zRh, zRf, zRa, zRr, zRk, zRl, zRn, zRx, zRp, zRb, zRg, zW1, zW2, zWt, zWh, zWf, zWn, zWu, zWa, zWr, zWx, zWs, zWb, zWp, zWg, nT, nH, nF, nR, nK, nX, nS, nD, nB, nG, zTown, zPup, zHeads, zRooms, zThere, zHall, zLodg, zLodger, zOf, zHit, zFinds, zKin, zDayH, zu_ne, zu_nef, zu_eq, zu_id, zu_rl, zu_rdL, zu_neL, zu_idL, ↓reduceIte, Nat.reduceEqDiff] using w9
  · intro i hi
    have hh := w10 i
    by_cases e : i = n
    · subst e
      simp (disch := omega) only [zu_ne, zu_id, ↓reduceIte]
      exact hb
    · simp (disch := omega) only [e, nT, nH, nF, nR, nK, nX, nD, zi_tn, zu_ne, zu_nef, zu_eq, zu_id, zu_rl, ↓reduceIte, Nat.reduceEqDiff] at hh hi hn ⊢
      exact hh (by omega)
  · simpa (disch := omega) only [zRt, zRc, zRh, zRf, zRa, zRr, zRk, zRl, zRn, zRx, zRp, zRb, zRg, zW1, zW2, zWt, zWh, zWf, zWn, zWu, zWa, zWr, zWx, zWs, zWb, zWp, zWg, nT, nH, nF, nR, nK, nX, nS, nD, nB, nG, zTown, zPup, zHeads, zRooms, zThere, zHall, zLodg, zLodger, zOf, zHit, zFinds, zKin, zDayH, zu_ne, zu_nef, zu_eq, zu_id, zu_rl, zu_rdL, zu_neL, zu_idL, ↓reduceIte, Nat.reduceEqDiff] using w11
  · simpa (disch := omega) only [zRt, zRc, zRh, zRf, zRa, zRr, zRk, zRl, zRn, zRx, zRp, zRb, zRg, zW1, zW2, zWt, zWh, zWf, zWn, zWu, zWa, zWr, zWx, zWs, zWb, zWp, zWg, nT, nH, nF, nR, nK, nX, nS, nD, nB, nG, zTown, zPup, zHeads, zRooms, zThere, zHall, zLodg, zLodger, zOf, zHit, zFinds, zKin, zDayH, zu_ne, zu_nef, zu_eq, zu_id, zu_rl, zu_rdL, zu_neL, zu_idL, ↓reduceIte, Nat.reduceEqDiff] using w12
  · simpa (disch := omega) only [zRt, zRc, zRh, zRf, zRa, zRr, zRk, zRl, zRn, zRx, zRp, zRb, zRg, zW1, zW2, zWt, zWh, zWf, zWn, zWu, zWa, zWr, zWx, zWs, zWb, zWp, zWg, nT, nH, nF, nR, nK, nX, nS, nD, nB, nG, zTown, zPup, zHeads, zRooms, zThere, zHall, zLodg, zLodger, zOf, zHit, zFinds, zKin, zDayH, zu_ne, zu_nef, zu_eq, zu_id, zu_rl, zu_rdL, zu_neL, zu_idL, ↓reduceIte, Nat.reduceEqDiff] using w13
  · simpa (disch := omega) only [zRt, zRc, zRh, zRf, zRa, zRr, zRk, zRl, zRn, zRx, zRp, zRb, zRg, zW1, zW2, zWt, zWh, zWf, zWn, zWu, zWa, zWr, zWx, zWs, zWb, zWp, zWg, nT, nH, nF, nR, nK, nX, nS, nD, nB, nG, zTown, zPup, zHeads, zRooms, zThere, zHall, zLodg, zLodger, zOf, zHit, zFinds, zKin, zDayH, zu_ne, zu_nef, zu_eq, zu_id, zu_rl, zu_rdL, zu_neL, zu_idL, ↓reduceIte, Nat.reduceEqDiff] using w14
  · simpa (disch := omega) only [zRt, zRc, zRh, zRf, zRa, zRr, zRk, zRl, zRn, zRx, zRp, zRb, zRg, zW1, zW2, zWt, zWh, zWf, zWn, zWu, zWa, zWr, zWx, zWs, zWb, zWp, zWg, nT, nH, nF, nR, nK, nX, nS, nD, nB, nG, zTown, zPup, zHeads, zRooms, zThere, zHall, zLodg, zLodger, zOf, zHit, zFinds, zKin, zDayH, zu_ne, zu_nef, zu_eq, zu_id, zu_rl, zu_rdL, zu_neL, zu_idL, ↓reduceIte, Nat.reduceEqDiff] using r1
  · simpa (disch := omega) only [zRt, zRc, zRh, zRf, zRa, zRr, zRk, zRl, zRn, zRx, zRp, zRb, zRg, zW1, zW2, zWt, zWh, zWf, zWn, zWu, zWa, zWr, zWx, zWs, zWb, zWp, zWg, nT, nH, nF, nR, nK, nX, nS, nD, nB, nG, zTown, zPup, zHeads, zRooms, zThere, zHall, zLodg, zLodger, zOf, zHit, zFinds, zKin, zDayH, zu_ne, zu_nef, zu_eq, zu_id, zu_rl, zu_rdL, zu_neL, zu_idL, ↓reduceIte, Nat.reduceEqDiff] using r2
  · simpa (disch := omega) only [zRt, zRc, zRh, zRf, zRa, zRr, zRk, zRl, zRn, zRx, zRp, zRb, zRg, zW1, zW2, zWt, zWh, zWf, zWn, zWu, zWa, zWr, zWx, zWs, zWb, zWp, zWg, nT, nH, nF, nR, nK, nX, nS, nD, nB, nG, zTown, zPup, zHeads, zRooms, zThere, zHall, zLodg, zLodger, zOf, zHit, zFinds, zKin, zDayH, zu_ne, zu_nef, zu_eq, zu_id, zu_rl, zu_rdL, zu_neL, zu_idL, ↓reduceIte, Nat.reduceEqDiff] using r3
  · simpa (disch := omega) only [zRt, zRc, zRh, zRf, zRa, zRr, zRk, zRl, zRn, zRx, zRp, zRb, zRg, zW1, zW2, zWt, zWh, zWf, zWn, zWu, zWa, zWr, zWx, zWs, zWb, zWp, zWg, nT, nH, nF, nR, nK, nX, nS, nD, nB, nG, zTown, zPup, zHeads, zRooms, zThere, zHall, zLodg, zLodger, zOf, zHit, zFinds, zKin, zDayH, zu_ne, zu_nef, zu_eq, zu_id, zu_rl, zu_rdL, zu_neL, zu_idL, ↓reduceIte, Nat.reduceEqDiff] using r4
  · simpa (disch := omega) only [zRt, zRc, zRh, zRf, zRa, zRr, zRk, zRl, zRn, zRx, zRp, zRb, zRg, zW1, zW2, zWt, zWh, zWf, zWn, zWu, zWa, zWr, zWx, zWs, zWb, zWp, zWg, nT, nH, nF, nR, nK, nX, nS, nD, nB, nG, zTown, zPup, zHeads, zRooms, zThere, zHall, zLodg, zLodger, zOf, zHit, zFinds, zKin, zDayH, zu_ne, zu_nef, zu_eq, zu_id, zu_rl, zu_rdL, zu_neL, zu_idL, ↓reduceIte, Nat.reduceEqDiff] using r5
  · simpa (disch := omega) only [zRt, zRc, zRh, zRf, zRa, zRr, zRk, zRl, zRn, zRx, zRp, zRb, zRg, zW1, zW2, zWt, zWh, zWf, zWn, zWu, zWa, zWr, zWx, zWs, zWb, zWp, zWg, nT, nH, nF, nR, nK, nX, nS, nD, nB, nG, zTown, zPup, zHeads, zRooms, zThere, zHall, zLodg, zLodger, zOf, zHit, zFinds, zKin, zDayH, zu_ne, zu_nef, zu_eq, zu_id, zu_rl, zu_rdL, zu_neL, zu_idL, ↓reduceIte, Nat.reduceEqDiff] using r6
  · simpa (disch := omega) only [zRt, zRc, zRh, zRf, zRa, zRr, zRk, zRl, zRn, zRx, zRp, zRb, zRg, zW1, zW2, zWt, zWh, zWf, zWn, zWu, zWa, zWr, zWx, zWs, zWb, zWp, zWg, nT, nH, nF, nR, nK, nX, nS, nD, nB, nG, zTown, zPup, zHeads, zRooms, zThere, zHall, zLodg, zLodger, zOf, zHit, zFinds, zKin, zDayH, zu_ne, zu_nef, zu_eq, zu_id, zu_rl, zu_rdL, zu_neL, zu_idL, ↓reduceIte, Nat.reduceEqDiff] using r7
  · simpa (disch := omega) only [zRt, zRc, zRh, zRf, zRa, zRr, zRk, zRl, zRn, zRx, zRp, zRb, zRg, zW1, zW2, zWt, zWh, zWf, zWn, zWu, zWa, zWr, zWx, zWs, zWb, zWp, zWg, nT, nH, nF, nR, nK, nX, nS, nD, nB, nG, zTown, zPup, zHeads, zRooms, zThere, zHall, zLodg, zLodger, zOf, zHit, zFinds, zKin, zDayH, zu_ne, zu_nef, zu_eq, zu_id, zu_rl, zu_rdL, zu_neL, zu_idL, ↓reduceIte, Nat.reduceEqDiff] using r8
  · simpa (disch := omega) only [zRt, zRc, zRh, zRf, zRa, zRr, zRk, zRl, zRn, zRx, zRp, zRb, zRg, zW1, zW2, zWt, zWh, zWf, zWn, zWu, zWa, zWr, zWx, zWs, zWb, zWp, zWg, nT, nH, nF, nR, nK, nX, nS, nD, nB, nG, zTown, zPup, zHeads, zRooms, zThere, zHall, zLodg, zLodger, zOf, zHit, zFinds, zKin, zDayH, zu_ne, zu_nef, zu_eq, zu_id, zu_rl, zu_rdL, zu_neL, zu_idL, ↓reduceIte, Nat.reduceEqDiff] using r9
  · refine ⟨by simp (disch := omega) only [zu_ne, zu_eq, zu_id, ↓reduceIte, Nat.reduceEqDiff], fun i hi => ?_⟩
    have hh := r10.2 i
    by_cases e : i = n
    · subst e
      simp (disch := omega) only [zu_ne, zu_id, ↓reduceIte]
    · simp (disch := omega) only [e, nT, nH, nF, nR, nK, nX, nD, zi_tn, zu_ne, zu_nef, zu_eq, zu_id, zu_rl, ↓reduceIte, Nat.reduceEqDiff] at hh hi hn ⊢
      exact hh (by omega)
  · simpa (disch := omega) only [zRt, zRc, zRh, zRf, zRa, zRr, zRk, zRl, zRn, zRx, zRp, zRb, zRg, zW1, zW2, zWt, zWh, zWf, zWn, zWu, zWa, zWr, zWx, zWs, zWb, zWp, zWg, nT, nH, nF, nR, nK, nX, nS, nD, nB, nG, zTown, zPup, zHeads, zRooms, zThere, zHall, zLodg, zLodger, zOf, zHit, zFinds, zKin, zDayH, zu_ne, zu_nef, zu_eq, zu_id, zu_rl, zu_rdL, zu_neL, zu_idL, ↓reduceIte, Nat.reduceEqDiff] using r11
  · simpa (disch := omega) only [zRt, zRc, zRh, zRf, zRa, zRr, zRk, zRl, zRn, zRx, zRp, zRb, zRg, zW1, zW2, zWt, zWh, zWf, zWn, zWu, zWa, zWr, zWx, zWs, zWb, zWp, zWg, nT, nH, nF, nR, nK, nX, nS, nD, nB, nG, zTown, zPup, zHeads, zRooms, zThere, zHall, zLodg, zLodger, zOf, zHit, zFinds, zKin, zDayH, zu_ne, zu_nef, zu_eq, zu_id, zu_rl, zu_rdL, zu_neL, zu_idL, ↓reduceIte, Nat.reduceEqDiff] using r12
  · simpa (disch := omega) only [zRt, zRc, zRh, zRf, zRa, zRr, zRk, zRl, zRn, zRx, zRp, zRb, zRg, zW1, zW2, zWt, zWh, zWf, zWn, zWu, zWa, zWr, zWx, zWs, zWb, zWp, zWg, nT, nH, nF, nR, nK, nX, nS, nD, nB, nG, zTown, zPup, zHeads, zRooms, zThere, zHall, zLodg, zLodger, zOf, zHit, zFinds, zKin, zDayH, zu_ne, zu_nef, zu_eq, zu_id, zu_rl, zu_rdL, zu_neL, zu_idL, ↓reduceIte, Nat.reduceEqDiff] using r13
def zFb (M : yb_S) (b : Int32) : yb_S := yb_pI (yb_pI M 242 (nX M) b) 176 44 (zi (nX M + 1))
def zB (x : Int32) (k : Nat) : Int32 := ((x.toUInt32 >>> ((zi (8 * k)).toUInt32 &&& Int32.toUInt32 31)).toInt32).toInt8.toInt32
theorem zFb_X {M : yb_S} {b : Int32} (h : nX M < 500) : nX (zFb M b) = nX M + 1 := by
  show ((zFb M b).1 176 44).toNatClampNeg = _
  unfold zFb
  rw [zu_eq, zi_tn (by omega)]
theorem zo_byte {M m s : yb_S} {x : Int32} {k n : Nat} (hW : zW M) (hA : zA M m s) (h8 : nX M < 500) (hk : k < 4) : zW (zFb M (zB x k)) ∧ ∃ u, l_X9_addNumber_3 x (n + 1) (zi (8 * k)) s = l_X9_addNumber_3 x n (zi (8 * k) + (-8)) u ∧ zA (zFb M (zB x k)) m u := by
  have hk' := fun (o : yb_S) hR => zk_byte (o := o) (M := M) (n := nX M) (b := zB x k) rfl h8 (zby_in _) hW hR
  refine ⟨(hk' _ hA.1).1, ?_⟩
  have hb : (x.toUInt32 >>> ((zi (8 * k)).toUInt32 &&& Int32.toUInt32 31)).toInt32 &&& 255 = zB x k &&& 255 := (zby_and _).symm
  refine ⟨yb_pI (yb_pI s 96 (nX M) (zB x k &&& 255)) 92 0 (zi (nX M + 1)), ?_, ?_, ?_⟩
  · show f_X9_addNumber_3 (fun x2 s => l_X9_addNumber_3 x n x2 s) x (zi (8 * k)) s = _
    unfold f_X9_addNumber_3
    rw [if_neg (by rw [zi_neg (by omega)]; exact id), cq_X hA, zw_X hW, show (500 : Int32) = zi 500 from rfl, if_neg (by rw [zi_le (by omega) (by omega)]; omega), hb, zi_wr (by omega) (by omega), Option.bind_some, zu_ne (by decide), cq_X hA, zw_X hW, zi_succ]
    rfl
  · have := (hk' _ hA.1).2
    simp (disch := omega) only [zP_e, zP_s, zP_k, zP_k0, zP_Ls, zP_Le, zO_e, zO_s, zO_92, zO_92s, zO_100, zO_100s, zO_Ls, zO_Le]
    exact this
  · simp (disch := omega) only [zHm_pI]
    exact hA.2
def zF4 (M : yb_S) (x : Int32) : yb_S := zFb (zFb (zFb (zFb M (zB x 3)) (zB x 2)) (zB x 1)) (zB x 0)
theorem zF4_X {M : yb_S} {x : Int32} (h : nX M + 4 ≤ 500) : nX (zF4 M x) = nX M + 4 := by
  unfold zF4
  rw [zFb_X, zFb_X, zFb_X, zFb_X (by omega)]
  · rw [zFb_X (by omega)]
    omega
  · rw [zFb_X, zFb_X (by omega)]
    · omega
    · rw [zFb_X (by omega)]
      omega
  · rw [zFb_X, zFb_X, zFb_X (by omega)]
    · omega
    · rw [zFb_X (by omega)]
      omega
    · rw [zFb_X, zFb_X (by omega)]
      · omega
      · rw [zFb_X (by omega)]
        omega
theorem zo_feed4 {M m s : yb_S} {x : Int32} (hW : zW M) (hA : zA M m s) (h : nX M + 4 ≤ 500) : zW (zF4 M x) ∧ zs_P (f_X9_addNumber x s) (fun u => zA (zF4 M x) m u) := by
  obtain ⟨W1, u1, e1, A1⟩ := zo_byte (x := x) (k := 3) (n := 4095) hW hA (by omega) (by omega)
  have x1 := zFb_X (M := M) (b := zB x 3) (by omega)
  obtain ⟨W2, u2, e2, A2⟩ := zo_byte (x := x) (k := 2) (n := 4094) W1 A1 (by omega) (by omega)
  have x2 := zFb_X (M := zFb M (zB x 3)) (b := zB x 2) (by omega)
  obtain ⟨W3, u3, e3, A3⟩ := zo_byte (x := x) (k := 1) (n := 4093) W2 A2 (by omega) (by omega)
  have x3 := zFb_X (M := zFb (zFb M (zB x 3)) (zB x 2)) (b := zB x 1) (by omega)
  obtain ⟨W4, u4, e4, A4⟩ := zo_byte (x := x) (k := 0) (n := 4092) W3 A3 (by omega) (by omega)
  refine ⟨W4, u4, ?_, A4⟩
  unfold f_X9_addNumber
  rw [show (24 : Int32) = zi (8 * 3) from rfl, show yb_N = 4095 + 1 from rfl, e1, show zi (8 * 3) + (-8) = zi (8 * 2) from by decide, e2, show zi (8 * 2) + (-8) = zi (8 * 1) from by decide, e3, show zi (8 * 1) + (-8) = zi (8 * 0) from by decide, e4, show zi (8 * 0) + (-8) = -8 from by decide]
  show f_X9_addNumber_3 (fun x2 s => l_X9_addNumber_3 x 4091 x2 s) x (-8) u4 = _
  unfold f_X9_addNumber_3
  rw [if_pos (by decide)]
theorem zm_byte {M o s : yb_S} {x : Int32} {k n : Nat} (hW : zW M) (hQ : zQ M o s) (h8 : nX M < 500) (hk : k < 4) : ∃ u, l_X12_feeds_2 x (n + 1) (zi k) s = l_X12_feeds_2 x n (zi k + (-1)) u ∧ zQ (zFb M (zB x k)) o u := by
  refine ⟨yb_pI (yb_pI s 242 (nX M) (zB x k)) 176 44 (zi (nX M + 1)), ?_, zQ_ek (zQ_e hQ (by omega)) (by omega)⟩
  show f_X12_feeds_2 (fun x2 s => l_X12_feeds_2 x n x2 s) x (zi k) s = _
  unfold f_X12_feeds_2
  have e8 : (8 : Int32) * zi k = zi (8 * k) := by rw [show (8 : Int32) = zi 8 from rfl, zi_mul]
  rw [if_neg (by rw [zi_neg (by omega)]; exact id), e8, zby_lo, zqk hQ (by omega), zw_X hW, zi_wr (by omega) (by omega), Option.bind_some, zu_ne (by decide), zqk hQ (by omega), zw_X hW, zi_succ]
  rfl
theorem zm_feed4 {M o s : yb_S} {x : Int32} (hW1 : zW M) (hW2 : zW (zFb M (zB x 3))) (hW3 : zW (zFb (zFb M (zB x 3)) (zB x 2))) (hW4 : zW (zFb (zFb (zFb M (zB x 3)) (zB x 2)) (zB x 1))) (hQ : zQ M o s) (h : nX M + 4 ≤ 500) : zs_P (f_X12_feeds x s) (fun u => zQ (zF4 M x) o u) := by
  obtain ⟨u1, e1, A1⟩ := zm_byte (x := x) (k := 3) (n := 4095) hW1 hQ (by omega) (by omega)
  have x1 := zFb_X (M := M) (b := zB x 3) (by omega)
  obtain ⟨u2, e2, A2⟩ := zm_byte (x := x) (k := 2) (n := 4094) hW2 A1 (by omega) (by omega)
  have x2 := zFb_X (M := zFb M (zB x 3)) (b := zB x 2) (by omega)
  obtain ⟨u3, e3, A3⟩ := zm_byte (x := x) (k := 1) (n := 4093) hW3 A2 (by omega) (by omega)
  have x3 := zFb_X (M := zFb (zFb M (zB x 3)) (zB x 2)) (b := zB x 1) (by omega)
  obtain ⟨u4, e4, A4⟩ := zm_byte (x := x) (k := 0) (n := 4092) hW4 A3 (by omega) (by omega)
  refine ⟨u4, ?_, A4⟩
  unfold f_X12_feeds
  rw [show (3 : Int32) = zi 3 from rfl, show yb_N = 4095 + 1 from rfl, e1, show zi 3 + (-1) = zi 2 from by decide, e2, show zi 2 + (-1) = zi 1 from by decide, e3, show zi 1 + (-1) = zi 0 from by decide, e4, show zi 0 + (-1) = -1 from by decide]
  show f_X12_feeds_2 (fun x2 s => l_X12_feeds_2 x 4091 x2 s) x (-1) u4 = _
  unfold f_X12_feeds_2
  rw [if_pos (by decide)]
/-- what four bytes keep, said once for both sides: the pictures in between are good -/
theorem zF4_W {M o : yb_S} {x : Int32} (hW : zW M) (hR : zR o M) (h : nX M + 4 ≤ 500) : zW (zFb M (zB x 3)) ∧ zW (zFb (zFb M (zB x 3)) (zB x 2)) ∧ zW (zFb (zFb (zFb M (zB x 3)) (zB x 2)) (zB x 1)) ∧ zW (zF4 M x) ∧ ∃ o', zR o' (zF4 M x) := by
  have x1 := zFb_X (M := M) (b := zB x 3) (by omega)
  have x2 := zFb_X (M := zFb M (zB x 3)) (b := zB x 2) (by omega)
  have x3 := zFb_X (M := zFb (zFb M (zB x 3)) (zB x 2)) (b := zB x 1) (by omega)
  have k1 := zk_byte (o := o) (M := M) (n := nX M) (b := zB x 3) rfl (by omega) (zby_in _) hW hR
  have k2 := zk_byte (M := zFb M (zB x 3)) (n := nX (zFb M (zB x 3))) (b := zB x 2) rfl (by omega) (zby_in _) k1.1 k1.2
  have k3 := zk_byte (M := zFb (zFb M (zB x 3)) (zB x 2)) (n := nX (zFb (zFb M (zB x 3)) (zB x 2))) (b := zB x 1) rfl (by omega) (zby_in _) k2.1 k2.2
  have k4 := zk_byte (M := zFb (zFb (zFb M (zB x 3)) (zB x 2)) (zB x 1)) (n := nX (zFb (zFb (zFb M (zB x 3)) (zB x 2)) (zB x 1))) (b := zB x 0) rfl (by omega) (zby_in _) k3.1 k3.2
  exact ⟨k1.1, k2.1, k3.1, k4.1, _, k4.2⟩
theorem zF4_58 {M : yb_S} {x : Int32} : (zF4 M x).1 176 58 = M.1 176 58 := by
  unfold zF4
  have e : ∀ (N : yb_S) (b : Int32), (zFb N b).1 176 58 = N.1 176 58 := fun N b => by
    unfold zFb
    rw [zu_id, if_neg (by decide), zu_ne (by decide)]
  rw [e, e, e, e]
theorem ze_18 : ∀ (a1 a2 a3 a4 a5 : Int32) (s : yb_S), zInv s → ∃ (r : Int32) (s1 s2 : yb_S), f_X11_feed a1 a2 a3 a4 a5 s = some (r, s1) ∧ f_X12_feed a1 a2 a3 a4 a5 s1 = some (r, s2) ∧ zInv s2 := by
  intro a1 a2 a3 a4 a5 s h
  have hW := h.1
  have h8 := zw_X8 hW
  by_cases hc : nX (zP s) + 20 ≤ 500
  · obtain ⟨p1, p2, p3, p4, o1, R1⟩ := zF4_W (x := a1) hW h.2.1 (by omega)
    have y1 := zF4_X (M := zP s) (x := a1) (by omega)
    obtain ⟨q1, q2, q3, q4, o2, R2⟩ := zF4_W (x := a2) p4 R1 (by omega)
    have y2 := zF4_X (M := zF4 (zP s) a1) (x := a2) (by omega)
    obtain ⟨r1, r2, r3, r4, o3, R3⟩ := zF4_W (x := a3) q4 R2 (by omega)
    have y3 := zF4_X (M := zF4 (zF4 (zP s) a1) a2) (x := a3) (by omega)
    obtain ⟨s1, s2, s3, s4, o4, R4⟩ := zF4_W (x := a4) r4 R3 (by omega)
    have y4 := zF4_X (M := zF4 (zF4 (zF4 (zP s) a1) a2) a3) (x := a4) (by omega)
    obtain ⟨t1, t2, t3, t4, o5, R5⟩ := zF4_W (x := a5) s4 R4 (by omega)
    have y5 := zF4_X (M := zF4 (zF4 (zF4 (zF4 (zP s) a1) a2) a3) a4) (x := a5) (by omega)
    refine z_call h (zi (nX (zF4 (zF4 (zF4 (zF4 (zF4 (zP s) a1) a2) a3) a4) a5))) (zF4 (zF4 (zF4 (zF4 (zF4 (zP s) a1) a2) a3) a4) a5) (fun m t hA => ?_) (fun o t hQ => ?_) t4 ?_
    · unfold f_X11_feed f_X9_hasRoomFor
      rw [cq_X hA, zw_X hW, show (20 : Int32) = zi 20 from rfl, zi_add, show (500 : Int32) = zi 500 from rfl, if_neg (by rw [zi_lt (by omega) (by omega)]; omega), Option.bind_some, if_neg (by decide)]
      refine zs_bind (zo_feed4 hW hA (by omega)).2 fun u1 A1 => ?_
      refine zs_bind (zo_feed4 p4 A1 (by omega)).2 fun u2 A2 => ?_
      refine zs_bind (zo_feed4 q4 A2 (by omega)).2 fun u3 A3 => ?_
      refine zs_bind (zo_feed4 r4 A3 (by omega)).2 fun u4 A4 => ?_
      refine zs_bind (zo_feed4 s4 A4 (by omega)).2 fun u5 A5 => ?_
      rw [cq_X A5, zw_X t4]
      exact zs_ret ⟨rfl, A5⟩
    · unfold f_X12_feed
      rw [zqk hQ (by omega), zw_X hW, show (20 : Int32) = zi 20 from rfl, zi_add, show (500 : Int32) = zi 500 from rfl, if_pos (by rw [zi_le (by omega) (by omega)]; omega)]
      refine zs_bind (zm_feed4 hW p1 p2 p3 hQ (by omega)) fun u1 A1 => ?_
      refine zs_bind (zm_feed4 p4 q1 q2 q3 A1 (by omega)) fun u2 A2 => ?_
      refine zs_bind (zm_feed4 q4 r1 r2 r3 A2 (by omega)) fun u3 A3 => ?_
      refine zs_bind (zm_feed4 r4 s1 s2 s3 A3 (by omega)) fun u4 A4 => ?_
      refine zs_bind (zm_feed4 s4 t1 t2 t3 A4 (by omega)) fun u5 A5 => ?_
      rw [zqk A5 (by omega), zw_X t4]
      exact zs_ret ⟨rfl, A5⟩
    · rw [zF4_58, zF4_58, zF4_58, zF4_58, zF4_58]
      exact z_b58 h
  · refine z_ask h (-1) (fun m t hA => ?_) (fun o t hQ => ?_)
    · unfold f_X11_feed f_X9_hasRoomFor
      rw [cq_X hA, zw_X hW, show (20 : Int32) = zi 20 from rfl, zi_add, show (500 : Int32) = zi 500 from rfl, if_pos (by rw [zi_lt (by omega) (by omega)]; omega), Option.bind_some, if_pos rfl]
      exact zs_ret ⟨rfl, hA⟩
    · unfold f_X12_feed
      rw [zqk hQ (by omega), zw_X hW, show (20 : Int32) = zi 20 from rfl, zi_add, show (500 : Int32) = zi 500 from rfl, if_neg (by rw [zi_le (by omega) (by omega)]; omega)]
      exact zs_ret ⟨rfl, hQ⟩
theorem zk_fore {o M : yb_S} {n j : Nat} {x : Int32} (hn : n = nG M) (h8 : n < 40) (hj : j ≤ 200) (hW : zW M) (hR : zR o M) : zW (yb_pI (yb_pI (yb_pI M 601 n (zi j)) 602 n x) 176 85 (zi (n + 1))) ∧ zR (yb_pI (yb_pI o 175 j (o.1 175 j + x)) 172 1 (zi (n + 1))) (yb_pI (yb_pI (yb_pI M 601 n (zi j)) 602 n x) 176 85 (zi (n + 1))) := by
  obtain ⟨w1, w2, w3, w4, w5, w6, w7, w8, w9, w10, w11, w12, w13, w14⟩ := hW
  obtain ⟨r1, r2, r3, r4, r5, r6, r7, r8, r9, r10, r11, r12, r13⟩ := hR
  have bH : (M.1 176 15).toNatClampNeg ≤ 24 := w1.2.2.2.1
  have bF : (M.1 176 27).toNatClampNeg ≤ 24 := w1.2.2.2.2.2.1
  have bX : (M.1 176 44).toNatClampNeg ≤ 500 := w2.2.1
  have bS : (M.1 176 54).toNatClampNeg ≤ 10 := w2.2.2.2.1
  have bD : (M.1 176 7).toNatClampNeg ≤ 200 := w2.2.2.2.2.2.1
  refine ⟨⟨?_, ?_, ?_, ?_, ?_, ?_, ?_, ?_, ?_, ?_, ?_, ?_, ?_, ?_⟩, ?_, ?_, ?_, ?_, ?_, ?_, ?_, ?_, ?_, ?_, ?_, ?_, ?_⟩
  · simpa (disch := omega) only [zRt, zRc, zRh, zRf, zRa, zRr, zRk, zRl, zRn, zRx, zRp, zRb, zRg, zW1, zW2, zWt, zWh, zWf, zWn, zWu, zWa, zWr, zWx, zWs, zWb, zWp, zWg, nT, nH, nF, nR, nK, nX, nS, nD, nB, nG, zTown, zPup, zHeads, zRooms, zThere, zHall, zLodg, zLodger, zOf, zHit, zFinds, zKin, zDayH, zu_ne, zu_nef, zu_eq, zu_id, zu_rl, zu_rdL, zu_neL, zu_idL, ↓reduceIte, Nat.reduceEqDiff] using w1
  · (have hh := w2; simp (disch := omega) only [zRt, zRc, zRh, zRf, zRa, zRr, zRk, zRl, zRn, zRx, zRp, zRb, zRg, zW1, zW2, zWt, zWh, zWf, zWn, zWu, zWa, zWr, zWx, zWs, zWb, zWp, zWg, nT, nH, nF, nR, nK, nX, nS, nD, nB, nG, zTown, zPup, zHeads, zRooms, zThere, zHall, zLodg, zLodger, zOf, zHit, zFinds, zKin, zDayH, zi_tn, zu_ne, zu_nef, zu_eq, zu_id, zu_rl, zu_rdL, zu_neL, zu_idL, ↓reduceIte, Nat.reduceEqDiff] at hh hn ⊢; grind)
  · simpa (disch := omega) only [zRt, zRc, zRh, zRf, zRa, zRr, zRk, zRl, zRn, zRx, zRp, zRb, zRg, zW1, zW2, zWt, zWh, zWf, zWn, zWu, zWa, zWr, zWx, zWs, zWb, zWp, zWg, nT, nH, nF, nR, nK, nX, nS, nD, nB, nG, zTown, zPup, zHeads, zRooms, zThere, zHall, zLodg, zLodger, zOf, zHit, zFinds, zKin, zDayH, zu_ne, zu_nef, zu_eq, zu_id, zu_rl, zu_rdL, zu_neL, zu_idL, ↓reduceIte, Nat.reduceEqDiff] using w3
  · simpa (disch := omega) only [zRt, zRc, zRh, zRf, zRa, zRr, zRk, zRl, zRn, zRx, zRp, zRb, zRg, zW1, zW2, zWt, zWh, zWf, zWn, zWu, zWa, zWr, zWx, zWs, zWb, zWp, zWg, nT, nH, nF, nR, nK, nX, nS, nD, nB, nG, zTown, zPup, zHeads, zRooms, zThere, zHall, zLodg, zLodger, zOf, zHit, zFinds, zKin, zDayH, zu_ne, zu_nef, zu_eq, zu_id, zu_rl, zu_rdL, zu_neL, zu_idL, ↓reduceIte, Nat.reduceEqDiff] using w4
  · simpa (disch := omega) only [zRt, zRc, zRh, zRf, zRa, zRr, zRk, zRl, zRn, zRx, zRp, zRb, zRg, zW1, zW2, zWt, zWh, zWf, zWn, zWu, zWa, zWr, zWx, zWs, zWb, zWp, zWg, nT, nH, nF, nR, nK, nX, nS, nD, nB, nG, zTown, zPup, zHeads, zRooms, zThere, zHall, zLodg, zLodger, zOf, zHit, zFinds, zKin, zDayH, zu_ne, zu_nef, zu_eq, zu_id, zu_rl, zu_rdL, zu_neL, zu_idL, ↓reduceIte, Nat.reduceEqDiff] using w5
  · simpa (disch := omega) only [zRt, zRc, zRh, zRf, zRa, zRr, zRk, zRl, zRn, zRx, zRp, zRb, zRg, zW1, zW2, zWt, zWh, zWf, zWn, zWu, zWa, zWr, zWx, zWs, zWb, zWp, zWg, nT, nH, nF, nR, nK, nX, nS, nD, nB, nG, zTown, zPup, zHeads, zRooms, zThere, zHall, zLodg, zLodger, zOf, zHit, zFinds, zKin, zDayH, zu_ne, zu_nef, zu_eq, zu_id, zu_rl, zu_rdL, zu_neL, zu_idL, ↓reduceIte, Nat.reduceEqDiff] using w6
  · simpa (disch := omega) only [zRt, zRc, zRh, zRf, zRa, zRr, zRk, zRl, zRn, zRx, zRp, zRb, zRg, zW1, zW2, zWt, zWh, zWf, zWn, zWu, zWa, zWr, zWx, zWs, zWb, zWp, zWg, nT, nH, nF, nR, nK, nX, nS, nD, nB, nG, zTown, zPup, zHeads, zRooms, zThere, zHall, zLodg, zLodger, zOf, zHit, zFinds, zKin, zDayH, zu_ne, zu_nef, zu_eq, zu_id, zu_rl, zu_rdL, zu_neL, zu_idL, ↓reduceIte, Nat.reduceEqDiff] using w7
  · simpa (disch := omega) only [zRt, zRc, zRh, zRf, zRa, zRr, zRk, zRl, zRn, zRx, zRp, zRb, zRg, zW1, zW2, zWt, zWh, zWf, zWn, zWu, zWa, zWr, zWx, zWs, zWb, zWp, zWg, nT, nH, nF, nR, nK, nX, nS, nD, nB, nG, zTown, zPup, zHeads, zRooms, zThere, zHall, zLodg, zLodger, zOf, zHit, zFinds, zKin, zDayH, zu_ne, zu_nef, zu_eq, zu_id, zu_rl, zu_rdL, zu_neL, zu_idL, ↓reduceIte, Nat.reduceEqDiff] using w8
  · simpa (disch := omega) only [zRt, zRc, zRh, zRf, zRa, zRr, zRk, zRl, zRn, zRx, zRp, zRb, zRg, zW1, zW2, zWt, zWh, zWf, zWn, zWu, zWa, zWr, zWx, zWs, zWb, zWp, zWg, nT, nH, nF, nR, nK, nX, nS, nD, nB, nG, zTown, zPup, zHeads, zRooms, zThere, zHall, zLodg, zLodger, zOf, zHit, zFinds, zKin, zDayH, zu_ne, zu_nef, zu_eq, zu_id, zu_rl, zu_rdL, zu_neL, zu_idL, ↓reduceIte, Nat.reduceEqDiff] using w9
  · simpa (disch := omega) only [zRt, zRc, zRh, zRf, zRa, zRr, zRk, zRl, zRn, zRx, zRp, zRb, zRg, zW1, zW2, zWt, zWh, zWf, zWn, zWu, zWa, zWr, zWx, zWs, zWb, zWp, zWg, nT, nH, nF, nR, nK, nX, nS, nD, nB, nG, zTown, zPup, zHeads, zRooms, zThere, zHall, zLodg, zLodger, zOf, zHit, zFinds, zKin, zDayH, zu_ne, zu_nef, zu_eq, zu_id, zu_rl, zu_rdL, zu_neL, zu_idL, ↓reduceIte, Nat.reduceEqDiff] using w10
  · simpa (disch := omega) only [zRt, zRc, zRh, zRf, zRa, zRr, zRk, zRl, zRn, zRx, zRp, zRb, zRg, zW1, zW2, zWt, zWh, zWf, zWn, zWu, zWa, zWr, zWx, zWs, zWb, zWp, zWg, nT, nH, nF, nR, nK, nX, nS, nD, nB, nG, zTown, zPup, zHeads, zRooms, zThere, zHall, zLodg, zLodger, zOf, zHit, zFinds, zKin, zDayH, zu_ne, zu_nef, zu_eq, zu_id, zu_rl, zu_rdL, zu_neL, zu_idL, ↓reduceIte, Nat.reduceEqDiff] using w11
  · simpa (disch := omega) only [zRt, zRc, zRh, zRf, zRa, zRr, zRk, zRl, zRn, zRx, zRp, zRb, zRg, zW1, zW2, zWt, zWh, zWf, zWn, zWu, zWa, zWr, zWx, zWs, zWb, zWp, zWg, nT, nH, nF, nR, nK, nX, nS, nD, nB, nG, zTown, zPup, zHeads, zRooms, zThere, zHall, zLodg, zLodger, zOf, zHit, zFinds, zKin, zDayH, zu_ne, zu_nef, zu_eq, zu_id, zu_rl, zu_rdL, zu_neL, zu_idL, ↓reduceIte, Nat.reduceEqDiff] using w12
  · simpa (disch := omega) only [zRt, zRc, zRh, zRf, zRa, zRr, zRk, zRl, zRn, zRx, zRp, zRb, zRg, zW1, zW2, zWt, zWh, zWf, zWn, zWu, zWa, zWr, zWx, zWs, zWb, zWp, zWg, nT, nH, nF, nR, nK, nX, nS, nD, nB, nG, zTown, zPup, zHeads, zRooms, zThere, zHall, zLodg, zLodger, zOf, zHit, zFinds, zKin, zDayH, zu_ne, zu_nef, zu_eq, zu_id, zu_rl, zu_rdL, zu_neL, zu_idL, ↓reduceIte, Nat.reduceEqDiff] using w13
  · refine ⟨?_, fun k hk => ?_⟩
    · have hh := w14.1
      simpa (disch := omega) only [nB, zu_ne, zu_nef, zu_id, ↓reduceIte, Nat.reduceEqDiff] using hh
    have hh := w14.2 k
    by_cases hq : k = n <;> simp (disch := omega) only [nG, hq, zi_tn, zu_ne, zu_id, zu_eq, ↓reduceIte, Nat.reduceEqDiff] at hh hk hn ⊢
    · exact ⟨j, hj, rfl⟩
    · exact hh (by omega)
  · simpa (disch := omega) only [zRt, zRc, zRh, zRf, zRa, zRr, zRk, zRl, zRn, zRx, zRp, zRb, zRg, zW1, zW2, zWt, zWh, zWf, zWn, zWu, zWa, zWr, zWx, zWs, zWb, zWp, zWg, nT, nH, nF, nR, nK, nX, nS, nD, nB, nG, zTown, zPup, zHeads, zRooms, zThere, zHall, zLodg, zLodger, zOf, zHit, zFinds, zKin, zDayH, zu_ne, zu_nef, zu_eq, zu_id, zu_rl, zu_rdL, zu_neL, zu_idL, ↓reduceIte, Nat.reduceEqDiff] using r1
  · simpa (disch := omega) only [zRt, zRc, zRh, zRf, zRa, zRr, zRk, zRl, zRn, zRx, zRp, zRb, zRg, zW1, zW2, zWt, zWh, zWf, zWn, zWu, zWa, zWr, zWx, zWs, zWb, zWp, zWg, nT, nH, nF, nR, nK, nX, nS, nD, nB, nG, zTown, zPup, zHeads, zRooms, zThere, zHall, zLodg, zLodger, zOf, zHit, zFinds, zKin, zDayH, zu_ne, zu_nef, zu_eq, zu_id, zu_rl, zu_rdL, zu_neL, zu_idL, ↓reduceIte, Nat.reduceEqDiff] using r2
  · simpa (disch := omega) only [zRt, zRc, zRh, zRf, zRa, zRr, zRk, zRl, zRn, zRx, zRp, zRb, zRg, zW1, zW2, zWt, zWh, zWf, zWn, zWu, zWa, zWr, zWx, zWs, zWb, zWp, zWg, nT, nH, nF, nR, nK, nX, nS, nD, nB, nG, zTown, zPup, zHeads, zRooms, zThere, zHall, zLodg, zLodger, zOf, zHit, zFinds, zKin, zDayH, zu_ne, zu_nef, zu_eq, zu_id, zu_rl, zu_rdL, zu_neL, zu_idL, ↓reduceIte, Nat.reduceEqDiff] using r3
  · simpa (disch := omega) only [zRt, zRc, zRh, zRf, zRa, zRr, zRk, zRl, zRn, zRx, zRp, zRb, zRg, zW1, zW2, zWt, zWh, zWf, zWn, zWu, zWa, zWr, zWx, zWs, zWb, zWp, zWg, nT, nH, nF, nR, nK, nX, nS, nD, nB, nG, zTown, zPup, zHeads, zRooms, zThere, zHall, zLodg, zLodger, zOf, zHit, zFinds, zKin, zDayH, zu_ne, zu_nef, zu_eq, zu_id, zu_rl, zu_rdL, zu_neL, zu_idL, ↓reduceIte, Nat.reduceEqDiff] using r4
  · simpa (disch := omega) only [zRt, zRc, zRh, zRf, zRa, zRr, zRk, zRl, zRn, zRx, zRp, zRb, zRg, zW1, zW2, zWt, zWh, zWf, zWn, zWu, zWa, zWr, zWx, zWs, zWb, zWp, zWg, nT, nH, nF, nR, nK, nX, nS, nD, nB, nG, zTown, zPup, zHeads, zRooms, zThere, zHall, zLodg, zLodger, zOf, zHit, zFinds, zKin, zDayH, zu_ne, zu_nef, zu_eq, zu_id, zu_rl, zu_rdL, zu_neL, zu_idL, ↓reduceIte, Nat.reduceEqDiff] using r5
  · simpa (disch := omega) only [zRt, zRc, zRh, zRf, zRa, zRr, zRk, zRl, zRn, zRx, zRp, zRb, zRg, zW1, zW2, zWt, zWh, zWf, zWn, zWu, zWa, zWr, zWx, zWs, zWb, zWp, zWg, nT, nH, nF, nR, nK, nX, nS, nD, nB, nG, zTown, zPup, zHeads, zRooms, zThere, zHall, zLodg, zLodger, zOf, zHit, zFinds, zKin, zDayH, zu_ne, zu_nef, zu_eq, zu_id, zu_rl, zu_rdL, zu_neL, zu_idL, ↓reduceIte, Nat.reduceEqDiff] using r6
  · simpa (disch := omega) only [zRt, zRc, zRh, zRf, zRa, zRr, zRk, zRl, zRn, zRx, zRp, zRb, zRg, zW1, zW2, zWt, zWh, zWf, zWn, zWu, zWa, zWr, zWx, zWs, zWb, zWp, zWg, nT, nH, nF, nR, nK, nX, nS, nD, nB, nG, zTown, zPup, zHeads, zRooms, zThere, zHall, zLodg, zLodger, zOf, zHit, zFinds, zKin, zDayH, zu_ne, zu_nef, zu_eq, zu_id, zu_rl, zu_rdL, zu_neL, zu_idL, ↓reduceIte, Nat.reduceEqDiff] using r7
  · simpa (disch := omega) only [zRt, zRc, zRh, zRf, zRa, zRr, zRk, zRl, zRn, zRx, zRp, zRb, zRg, zW1, zW2, zWt, zWh, zWf, zWn, zWu, zWa, zWr, zWx, zWs, zWb, zWp, zWg, nT, nH, nF, nR, nK, nX, nS, nD, nB, nG, zTown, zPup, zHeads, zRooms, zThere, zHall, zLodg, zLodger, zOf, zHit, zFinds, zKin, zDayH, zu_ne, zu_nef, zu_eq, zu_id, zu_rl, zu_rdL, zu_neL, zu_idL, ↓reduceIte, Nat.reduceEqDiff] using r8
  · simpa (disch := omega) only [zRt, zRc, zRh, zRf, zRa, zRr, zRk, zRl, zRn, zRx, zRp, zRb, zRg, zW1, zW2, zWt, zWh, zWf, zWn, zWu, zWa, zWr, zWx, zWs, zWb, zWp, zWg, nT, nH, nF, nR, nK, nX, nS, nD, nB, nG, zTown, zPup, zHeads, zRooms, zThere, zHall, zLodg, zLodger, zOf, zHit, zFinds, zKin, zDayH, zu_ne, zu_nef, zu_eq, zu_id, zu_rl, zu_rdL, zu_neL, zu_idL, ↓reduceIte, Nat.reduceEqDiff] using r9
  · simpa (disch := omega) only [zRt, zRc, zRh, zRf, zRa, zRr, zRk, zRl, zRn, zRx, zRp, zRb, zRg, zW1, zW2, zWt, zWh, zWf, zWn, zWu, zWa, zWr, zWx, zWs, zWb, zWp, zWg, nT, nH, nF, nR, nK, nX, nS, nD, nB, nG, zTown, zPup, zHeads, zRooms, zThere, zHall, zLodg, zLodger, zOf, zHit, zFinds, zKin, zDayH, zu_ne, zu_nef, zu_eq, zu_id, zu_rl, zu_rdL, zu_neL, zu_idL, ↓reduceIte, Nat.reduceEqDiff] using r10
  · simpa (disch := omega) only [zRt, zRc, zRh, zRf, zRa, zRr, zRk, zRl, zRn, zRx, zRp, zRb, zRg, zW1, zW2, zWt, zWh, zWf, zWn, zWu, zWa, zWr, zWx, zWs, zWb, zWp, zWg, nT, nH, nF, nR, nK, nX, nS, nD, nB, nG, zTown, zPup, zHeads, zRooms, zThere, zHall, zLodg, zLodger, zOf, zHit, zFinds, zKin, zDayH, zu_ne, zu_nef, zu_eq, zu_id, zu_rl, zu_rdL, zu_neL, zu_idL, ↓reduceIte, Nat.reduceEqDiff] using r11
  · simpa (disch := omega) only [zRt, zRc, zRh, zRf, zRa, zRr, zRk, zRl, zRn, zRx, zRp, zRb, zRg, zW1, zW2, zWt, zWh, zWf, zWn, zWu, zWa, zWr, zWx, zWs, zWb, zWp, zWg, nT, nH, nF, nR, nK, nX, nS, nD, nB, nG, zTown, zPup, zHeads, zRooms, zThere, zHall, zLodg, zLodger, zOf, zHit, zFinds, zKin, zDayH, zu_ne, zu_nef, zu_eq, zu_id, zu_rl, zu_rdL, zu_neL, zu_idL, ↓reduceIte, Nat.reduceEqDiff] using r12
  · obtain ⟨q1, q2, q3⟩ := r13
    have hnb : nG (yb_pI (yb_pI (yb_pI M 601 n (zi j)) 602 n x) 176 85 (zi (n + 1))) = n + 1 := by
      unfold nG
      simp (disch := omega) only [zu_eq, zi_tn]
    refine ⟨by simp (disch := omega) only [zu_ne, zu_eq, zu_id, ↓reduceIte, Nat.reduceEqDiff]; exact q1, by simp (disch := omega) only [zu_ne, zu_eq, zu_id, ↓reduceIte], fun e he => ?_⟩
    have hq3 := q3 e he
    rw [hnb]
    refine ⟨?_, ?_, ?_⟩
    · have := hq3.1
      simpa (disch := omega) only [nB, zu_ne, zu_nef, zu_id, ↓reduceIte, Nat.reduceEqDiff] using this
    · have := hq3.2.1
      simpa (disch := omega) only [nB, zu_ne, zu_nef, zu_id, ↓reduceIte, Nat.reduceEqDiff] using this
    · have es : zsum (fun k => cond ((yb_pI (yb_pI (yb_pI M 601 n (zi j)) 602 n x) 176 85 (zi (n + 1))).1 601 k == zi e) ((yb_pI (yb_pI (yb_pI M 601 n (zi j)) 602 n x) 176 85 (zi (n + 1))).1 602 k) 0) n = zsum (fun k => cond (M.1 601 k == zi e) (M.1 602 k) 0) n := zsum_congr fun k hk => by simp (disch := omega) only [zu_ne, zu_id, if_neg]
      rw [zsum_succ, es, hn, ← hq3.2.2, ← hn]
      simp (disch := omega) only [zu_ne, zu_id, zu_eq, ↓reduceIte]
      by_cases hje : e = j
      · subst hje
        simp
      · rw [if_neg hje, show (zi j == zi e) = false from beq_eq_false_iff_ne.mpr (by rw [ne_eq, zi_inj (by omega) (by omega)]; omega)]
        simp
theorem ze_39 : ∀ (a1 a2 : Int32) (s : yb_S), zInv s → ∃ (r : Int32) (s1 s2 : yb_S), f_X11_foretell a1 a2 s = some (r, s1) ∧ f_X12_foretell a1 a2 s1 = some (r, s2) ∧ zInv s2 := by
  intro a1 a2 s h
  have hW := h.1
  have h9 := zw_D8 hW
  have h10 := zw_G8 hW
  by_cases hc : ∃ j, nD (zP s) ≤ j ∧ j ≤ 200 ∧ a1 = zi j ∧ -100 ≤ a2 ∧ a2 ≤ 100 ∧ nG (zP s) < 40
  · obtain ⟨j, j1, j2, rfl, c1, c2, h40⟩ := hc
    have hk := fun (o : yb_S) hR => zk_fore (o := o) (M := zP s) (n := nG (zP s)) (j := j) (x := a2) rfl h40 j2 hW hR
    refine z_call h (zi (nG (zP s) + 1)) _ (fun m t hA => ?_) (fun o t hQ => ?_) (hk _ h.2.1).1 ?_
    · unfold f_X11_foretell f_X11_isAhead f_X3_addBeds
      rw [cq_D hA, zw_D hW, if_neg (by rw [zi_lt (by omega) (by omega)]; omega), show (200 : Int32) = zi 200 from rfl, if_neg (by rw [zi_lt (by omega) (by omega)]; omega), Option.bind_some, if_neg (by decide), if_neg (Int32.not_lt.mpr c1), if_pos c2, cq_G hA, zw_G hW, show (40 : Int32) = zi 40 from rfl, if_pos (by rw [zi_lt (by omega) (by omega)]; exact h40)]
      simp (disch := omega) only [cq_G hA, zw_G hW, ↓zmd, zl, zi_div, zi_rem, zi_lt, zi_le, zi_inj, zi_add, zi_sub, zi_addm, zi_eqm, zi_meq, zi_mlt, zi_ltm, zi_lem, zi_mle, zi_tn, zi_rd, zi_wr, zi_rl, zi_wl, zi_ri, zu_ne, zu_nef, zu_eq, zu_id, zu_rl, zu_rdL, zu_neL, zu_idL, Option.bind_some, ↓reduceIte, Nat.reduceEqDiff, if_pos, if_neg]
      refine zs_ret ⟨rfl, ?_, ?_⟩
      · have := (hk _ hA.1).2
        simp (disch := omega) only [zP_e, zP_s, zP_k, zP_k0, zP_Ls, zP_Le, zO_e, zO_s, zO_92, zO_92s, zO_100, zO_100s, zO_Ls, zO_Le]
        exact this
      · simp (disch := omega) only [zHm_pI]
        exact hA.2
    · unfold f_X12_foretell
      rw [zqk hQ (k := 7) (by omega), zw_D hW, z_inZ (a := nD (zP s)) (b := 200) rfl (by decide) (by omega) (by omega) (by decide), if_pos ⟨j1, j2⟩, if_neg (by decide), z_in (lo := -100) (hi := 100) (by decide) (by decide), if_pos ⟨c1, c2⟩, if_neg (by decide), zqk hQ (k := 85) (by omega), zw_G hW, show (40 : Int32) = zi 40 from rfl, if_neg (by rw [zi_inj (by omega) (by omega)]; omega)]
      simp (disch := omega) only [zqk hQ, zw_G hW, ↓zmd, zl, zi_div, zi_rem, zi_lt, zi_le, zi_inj, zi_add, zi_sub, zi_addm, zi_eqm, zi_meq, zi_mlt, zi_ltm, zi_lem, zi_mle, zi_tn, zi_rd, zi_wr, zi_rl, zi_wl, zi_ri, zu_ne, zu_nef, zu_eq, zu_id, zu_rl, zu_rdL, zu_neL, zu_idL, Option.bind_some, ↓reduceIte, Nat.reduceEqDiff, if_pos, if_neg]
      exact zs_ret ⟨rfl, zQ_ek (zQ_e (zQ_e hQ (by omega)) (by omega)) (by omega)⟩
    · simp (disch := omega) only [zu_ne, zu_id, ↓reduceIte, Nat.reduceEqDiff]
      exact z_b58 h
  · refine z_ask h (-1) (fun m t hA => ?_) (fun o t hQ => ?_)
    · unfold f_X11_foretell f_X11_isAhead f_X3_addBeds
      rw [cq_D hA, zw_D hW, cq_G hA, zw_G hW, show (40 : Int32) = zi 40 from rfl]
      rcases zi_cases a1 with q | ⟨j, hj, rfl⟩
      · rw [if_pos (Int32.lt_of_lt_of_le q (by rw [zi_le (by omega) (by omega)]; omega)), Option.bind_some, if_pos rfl]
        exact zs_ret ⟨rfl, hA⟩
      · by_cases j1 : nD (zP s) ≤ j
        · rw [if_neg (by rw [zi_lt (by omega) (by omega)]; omega)]
          by_cases j2 : j ≤ 200
          · rw [show (200 : Int32) = zi 200 from rfl, if_neg (by rw [zi_lt (by omega) (by omega)]; omega), Option.bind_some, if_neg (by decide)]
            by_cases c1 : a2 < -100
            · rw [if_pos c1]
              exact zs_ret ⟨rfl, hA⟩
            · rw [if_neg c1]
              by_cases c2 : a2 ≤ 100
              · have h40 : ¬ nG (zP s) < 40 := fun q => hc ⟨j, j1, j2, rfl, Int32.not_lt.mp c1, c2, q⟩
                rw [if_pos c2, if_neg (by rw [zi_lt (by omega) (by omega)]; exact h40)]
                exact zs_ret ⟨rfl, hA⟩
              · rw [if_neg c2]
                exact zs_ret ⟨rfl, hA⟩
          · rw [show (200 : Int32) = zi 200 from rfl, if_pos (by rw [zi_lt (by omega) (by omega)]; omega), Option.bind_some, if_pos rfl]
            exact zs_ret ⟨rfl, hA⟩
        · rw [if_pos (by rw [zi_lt (by omega) (by omega)]; omega), Option.bind_some, if_pos rfl]
          exact zs_ret ⟨rfl, hA⟩
    · unfold f_X12_foretell
      rw [zqk hQ (k := 7) (by omega), zw_D hW]
      rcases zi_cases a1 with q | ⟨j, hj, rfl⟩
      · rw [z_inN q (by rw [show (0 : Int64) = (zi 0).toInt64 from rfl, z64_le, zi_le (by omega) (by omega)]; omega), if_pos rfl]
        exact zs_ret ⟨rfl, hQ⟩
      · rw [z_inZ (a := nD (zP s)) (b := 200) rfl (by decide) (by omega) (by omega) (by decide)]
        by_cases j12 : nD (zP s) ≤ j ∧ j ≤ 200
        · rw [if_pos j12, if_neg (by decide), z_in (lo := -100) (hi := 100) (by decide) (by decide)]
          by_cases c12 : -100 ≤ a2 ∧ a2 ≤ 100
          · have h40 : ¬ nG (zP s) < 40 := fun q => hc ⟨j, j12.1, j12.2, rfl, c12.1, c12.2, q⟩
            rw [if_pos c12, if_neg (by decide), zqk hQ (k := 85) (by omega), zw_G hW, show (40 : Int32) = zi 40 from rfl, if_pos (by rw [zi_inj (by omega) (by omega)]; omega)]
            exact zs_ret ⟨rfl, hQ⟩
          · rw [if_neg c12, if_pos rfl]
            exact zs_ret ⟨rfl, hQ⟩
        · rw [if_neg j12, if_pos rfl]
          exact zs_ret ⟨rfl, hQ⟩
