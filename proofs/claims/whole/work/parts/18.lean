/-! strike, end, boat, foretell -/
theorem zsum_succ {g : Nat → Int32} {n : Nat} : zsum g (n + 1) = zsum g n + g n := rfl
theorem zk_strike {o M : yb_S} {k : Nat} (hn : k < nS M) (hW : zW M) (hR : zR o M) : zW (yb_pI M 334 k (M.1 176 7)) ∧ zR (yb_pI o 56 k (M.1 176 7)) (yb_pI M 334 k (M.1 176 7)) := by
  obtain ⟨w1, w2, w3, w4, w5, w6, w7, w8, w9, w10, w11, w12, w13, w14⟩ := hW
  obtain ⟨r1, r2, r3, r4, r5, r6, r7, r8, r9, r10, r11, r12, r13⟩ := hR
  have bH : (M.1 176 15).toNatClampNeg ≤ 24 := w1.2.2.2.1
  have bF : (M.1 176 27).toNatClampNeg ≤ 24 := w1.2.2.2.2.2.1
  have bX : (M.1 176 44).toNatClampNeg ≤ 500 := w2.2.1
  have bS : (M.1 176 54).toNatClampNeg ≤ 10 := w2.2.2.2.1
  have bD : (M.1 176 7).toNatClampNeg ≤ 200 := w2.2.2.2.2.2.1
  refine ⟨⟨?_, ?_, ?_, ?_, ?_, ?_, ?_, ?_, ?_, ?_, ?_, ?_, ?_, ?_⟩, ?_, ?_, ?_, ?_, ?_, ?_, ?_, ?_, ?_, ?_, ?_, ?_, ?_⟩
  · simpa (disch := omega) only [zRt, zRc, zRh, zRf, zRa, zRr, zRk, zRl, zRn, zRx, zRp, zRb, zRg, zW1, zW2, zWt, zWh, zWf, zWn, zWu, zWa, zWr, zWx, zWs, zWb, zWp, zWg, nT, nH, nF, nR, nK, nX, nS, nD, nB, nG, zTown, zPup, zHeads, zRooms, zThere, zHall, zLodg, zLodger, zOf, zHit, zFinds, zKin, zDayH, zu_ne, zu_nef, zu_eq, zu_id, zu_rl, zu_rdL, zu_neL, zu_idL, ↓reduceIte, Nat.reduceEqDiff] using w1
  · simpa (disch := omega) only [zRt, zRc, zRh, zRf, zRa, zRr, zRk, zRl, zRn, zRx, zRp, zRb, zRg, zW1, zW2, zWt, zWh, zWf, zWn, zWu, zWa, zWr, zWx, zWs, zWb, zWp, zWg, nT, nH, nF, nR, nK, nX, nS, nD, nB, nG, zTown, zPup, zHeads, zRooms, zThere, zHall, zLodg, zLodger, zOf, zHit, zFinds, zKin, zDayH, zu_ne, zu_nef, zu_eq, zu_id, zu_rl, zu_rdL, zu_neL, zu_idL, ↓reduceIte, Nat.reduceEqDiff] using w2
  · simpa (disch := omega) only [zRt, zRc, zRh, zRf, zRa, zRr, zRk, zRl, zRn, zRx, zRp, zRb, zRg, zW1, zW2, zWt, zWh, zWf, zWn, zWu, zWa, zWr, zWx, zWs, zWb, zWp, zWg, nT, nH, nF, nR, nK, nX, nS, nD, nB, nG, zTown, zPup, zHeads, zRooms, zThere, zHall, zLodg, zLodger, zOf, zHit, zFinds, zKin, zDayH, zu_ne, zu_nef, zu_eq, zu_id, zu_rl, zu_rdL, zu_neL, zu_idL, ↓reduceIte, Nat.reduceEqDiff] using w3
  · simpa (disch := omega) only [zRt, zRc, zRh, zRf, zRa, zRr, zRk, zRl, zRn, zRx, zRp, zRb, zRg, zW1, zW2, zWt, zWh, zWf, zWn, zWu, zWa, zWr, zWx, zWs, zWb, zWp, zWg, nT, nH, nF, nR, nK, nX, nS, nD, nB, nG, zTown, zPup, zHeads, zRooms, zThere, zHall, zLodg, zLodger, zOf, zHit, zFinds, zKin, zDayH, zu_ne, zu_nef, zu_eq, zu_id, zu_rl, zu_rdL, zu_neL, zu_idL, ↓reduceIte, Nat.reduceEqDiff] using w4
  · simpa (disch := omega) only [zRt, zRc, zRh, zRf, zRa, zRr, zRk, zRl, zRn, zRx, zRp, zRb, zRg, zW1, zW2, zWt, zWh, zWf, zWn, zWu, zWa, zWr, zWx, zWs, zWb, zWp, zWg, nT, nH, nF, nR, nK, nX, nS, nD, nB, nG, zTown, zPup, zHeads, zRooms, zThere, zHall, zLodg, zLodger, zOf, zHit, zFinds, zKin, zDayH, zu_ne, zu_nef, zu_eq, zu_id, zu_rl, zu_rdL, zu_neL, zu_idL, ↓reduceIte, Nat.reduceEqDiff] using w5
  · simpa (disch := omega) only [zRt, zRc, zRh, zRf, zRa, zRr, zRk, zRl, zRn, zRx, zRp, zRb, zRg, zW1, zW2, zWt, zWh, zWf, zWn, zWu, zWa, zWr, zWx, zWs, zWb, zWp, zWg, nT, nH, nF, nR, nK, nX, nS, nD, nB, nG, zTown, zPup, zHeads, zRooms, zThere, zHall, zLodg, zLodger, zOf, zHit, zFinds, zKin, zDayH, zu_ne, zu_nef, zu_eq, zu_id, zu_rl, zu_rdL, zu_neL, zu_idL, ↓reduceIte, Nat.reduceEqDiff] using w6
  · simpa (disch := omega) only [zRt, zRc, zRh, zRf, zRa, zRr, zRk, zRl, zRn, zRx, zRp, zRb, zRg, zW1, zW2, zWt, zWh, zWf, zWn, zWu, zWa, zWr, zWx, zWs, zWb, zWp, zWg, nT, nH, nF, nR, nK, nX, nS, nD, nB, nG, zTown, zPup, zHeads, zRooms, zThere, zHall, zLodg, zLodger, zOf, zHit, zFinds, zKin, zDayH, zu_ne, zu_nef, zu_eq, zu_id, zu_rl, zu_rdL, zu_neL, zu_idL, ↓reduceIte, Nat.reduceEqDiff] using w7
  · simpa (disch := omega) only [zRt, zRc, zRh, zRf, zRa, zRr, zRk, zRl, zRn, zRx, zRp, zRb, zRg, zW1, zW2, zWt, zWh, zWf, zWn, zWu, zWa, zWr, zWx, zWs, zWb, zWp, zWg, nT, nH, nF, nR, nK, nX, nS, nD, nB, nG, zTown, zPup, zHeads, zRooms, zThere, zHall, zLodg, zLodger, zOf, zHit, zFinds, zKin, zDayH, zu_ne, zu_nef, zu_eq, zu_id, zu_rl, zu_rdL, zu_neL, zu_idL, ↓reduceIte, Nat.reduceEqDiff] using w8
  · simpa (disch := omega) only [zRt, zRc, zRh, zRf, zRa, zRr, zRk, zRl, zRn, zRx, zRp, zRb, zRg, zW1, zW2, zWt, zWh, zWf, zWn, zWu, zWa, zWr, zWx, zWs, zWb, zWp, zWg, nT, nH, nF, nR, nK, nX, nS, nD, nB, nG, zTown, zPup, zHeads, zRooms, zThere, zHall, zLodg, zLodger, zOf, zHit, zFinds, zKin, zDayH, zu_ne, zu_nef, zu_eq, zu_id, zu_rl, zu_rdL, zu_neL, zu_idL, ↓reduceIte, Nat.reduceEqDiff] using w9
  · simpa (disch := omega) only [zRt, zRc, zRh, zRf, zRa, zRr, zRk, zRl, zRn, zRx, zRp, zRb, zRg, zW1, zW2, zWt, zWh, zWf, zWn, zWu, zWa, zWr, zWx, zWs, zWb, zWp, zWg, nT, nH, nF, nR, nK, nX, nS, nD, nB, nG, zTown, zPup, zHeads, zRooms, zThere, zHall, zLodg, zLodger, zOf, zHit, zFinds, zKin, zDayH, zu_ne, zu_nef, zu_eq, zu_id, zu_rl, zu_rdL, zu_neL, zu_idL, ↓reduceIte, Nat.reduceEqDiff] using w10
  · refine ⟨w11.1, fun j hj => ⟨?_, ?_⟩⟩
    · have hh := (w11.2 j hj).1
      by_cases hq : j = k <;> simp (disch := omega) only [hq, zu_ne, zu_eq, zu_id, ↓reduceIte]
      · exact Or.inr ⟨_, w2.2.2.2.2.1⟩
      · exact hh
    · have hh := (w11.2 j hj).2
      simpa (disch := omega) only [zu_ne, zu_nef] using hh
  · simpa (disch := omega) only [zRt, zRc, zRh, zRf, zRa, zRr, zRk, zRl, zRn, zRx, zRp, zRb, zRg, zW1, zW2, zWt, zWh, zWf, zWn, zWu, zWa, zWr, zWx, zWs, zWb, zWp, zWg, nT, nH, nF, nR, nK, nX, nS, nD, nB, nG, zTown, zPup, zHeads, zRooms, zThere, zHall, zLodg, zLodger, zOf, zHit, zFinds, zKin, zDayH, zu_ne, zu_nef, zu_eq, zu_id, zu_rl, zu_rdL, zu_neL, zu_idL, ↓reduceIte, Nat.reduceEqDiff] using w12
  · simpa (disch := omega) only [zRt, zRc, zRh, zRf, zRa, zRr, zRk, zRl, zRn, zRx, zRp, zRb, zRg, zW1, zW2, zWt, zWh, zWf, zWn, zWu, zWa, zWr, zWx, zWs, zWb, zWp, zWg, nT, nH, nF, nR, nK, nX, nS, nD, nB, nG, zTown, zPup, zHeads, zRooms, zThere, zHall, zLodg, zLodger, zOf, zHit, zFinds, zKin, zDayH, zu_ne, zu_nef, zu_eq, zu_id, zu_rl, zu_rdL, zu_neL, zu_idL, ↓reduceIte, Nat.reduceEqDiff] using w13
  · simpa (disch := omega) only [zRt, zRc, zRh, zRf, zRa, zRr, zRk, zRl, zRn, zRx, zRp, zRb, zRg, zW1, zW2, zWt, zWh, zWf, zWn, zWu, zWa, zWr, zWx, zWs, zWb, zWp, zWg, nT, nH, nF, nR, nK, nX, nS, nD, nB, nG, zTown, zPup, zHeads, zRooms, zThere, zHall, zLodg, zLodger, zOf, zHit, zFinds, zKin, zDayH, zu_ne, zu_nef, zu_eq, zu_id, zu_rl, zu_rdL, zu_neL, zu_idL, ↓reduceIte, Nat.reduceEqDiff] using w14
  · simpa (disch := omega) only [zRt, zRc, zRh, zRf, zRa, zRr, zRk, zRl, zRn, zRx, zRp, zRb, zRg, zW1, zW2, zWt, zWh, zWf, zWn, zWu, zWa, zWr, zWx, zWs, zWb, zWp, zWg, nT, nH, nF, nR, nK, nX, nS, nD, nB, nG, zTown, zPup, zHeads, zRooms, zThere, zHall, zLodg, zLodger, zOf, zHit, zFinds, zKin, zDayH, zu_ne, zu_nef, zu_eq, zu_id, zu_rl, zu_rdL, zu_neL, zu_idL, ↓reduceIte, Nat.reduceEqDiff] using r1
  · simpa (disch := omega) only [zRt, zRc, zRh, zRf, zRa, zRr, zRk, zRl, zRn, zRx, zRp, zRb, zRg, zW1, zW2, zWt, zWh, zWf, zWn, zWu, zWa, zWr, zWx, zWs, zWb, zWp, zWg, nT, nH, nF, nR, nK, nX, nS, nD, nB, nG, zTown, zPup, zHeads, zRooms, zThere, zHall, zLodg, zLodger, zOf, zHit, zFinds, zKin, zDayH, zu_ne, zu_nef, zu_eq, zu_id, zu_rl, zu_rdL, zu_neL, zu_idL, ↓reduceIte, Nat.reduceEqDiff] using r2
  · simpa (disch := omega) only [zRt, zRc, zRh, zRf, zRa, zRr, zRk, zRl, zRn, zRx, zRp, zRb, zRg, zW1, zW2, zWt, zWh, zWf, zWn, zWu, zWa, zWr, zWx, zWs, zWb, zWp, zWg, nT, nH, nF, nR, nK, nX, nS, nD, nB, nG, zTown, zPup, zHeads, zRooms, zThere, zHall, zLodg, zLodger, zOf, zHit, zFinds, zKin, zDayH, zu_ne, zu_nef, zu_eq, zu_id, zu_rl, zu_rdL, zu_neL, zu_idL, ↓reduceIte, Nat.reduceEqDiff] using r3
  · simpa (disch := omega) only [zRt, zRc, zRh, zRf, zRa, zRr, zRk, zRl, zRn, zRx, zRp, zRb, zRg, zW1, zW2, zWt, zWh, zWf, zWn, zWu, zWa, zWr, zWx, zWs, zWb, zWp, zWg, nT, nH, nF, nR, nK, nX, nS, nD, nB, nG, zTown, zPup, zHeads, zRooms, zThere, zHall, zLodg, zLodger, zOf, zHit, zFinds, zKin, zDayH, zu_ne, zu_nef, zu_eq, zu_id, zu_rl, zu_rdL, zu_neL, zu_idL, ↓reduceIte, Nat.reduceEqDiff] using r4
  · simpa (disch := omega) only [zRt, zRc, zRh, zRf, zRa, zRr, zRk, zRl, zRn, zRx, zRp, zRb, zRg, zW1, zW2, zWt, zWh, zWf, zWn, zWu, zWa, zWr, zWx, zWs, zWb, zWp, zWg, nT, nH, nF, nR, nK, nX, nS, nD, nB, nG, zTown, zPup, zHeads, zRooms, zThere, zHall, zLodg, zLodger, zOf, zHit, zFinds, zKin, zDayH, zu_ne, zu_nef, zu_eq, zu_id, zu_rl, zu_rdL, zu_neL, zu_idL, ↓reduceIte, Nat.reduceEqDiff] using r5
  · simpa (disch := omega) only [zRt, zRc, zRh, zRf, zRa, zRr, zRk, zRl, zRn, zRx, zRp, zRb, zRg, zW1, zW2, zWt, zWh, zWf, zWn, zWu, zWa, zWr, zWx, zWs, zWb, zWp, zWg, nT, nH, nF, nR, nK, nX, nS, nD, nB, nG, zTown, zPup, zHeads, zRooms, zThere, zHall, zLodg, zLodger, zOf, zHit, zFinds, zKin, zDayH, zu_ne, zu_nef, zu_eq, zu_id, zu_rl, zu_rdL, zu_neL, zu_idL, ↓reduceIte, Nat.reduceEqDiff] using r6
  · simpa (disch := omega) only [zRt, zRc, zRh, zRf, zRa, zRr, zRk, zRl, zRn, zRx, zRp, zRb, zRg, zW1, zW2, zWt, zWh, zWf, zWn, zWu, zWa, zWr, zWx, zWs, zWb, zWp, zWg, nT, nH, nF, nR, nK, nX, nS, nD, nB, nG, zTown, zPup, zHeads, zRooms, zThere, zHall, zLodg, zLodger, zOf, zHit, zFinds, zKin, zDayH, zu_ne, zu_nef, zu_eq, zu_id, zu_rl, zu_rdL, zu_neL, zu_idL, ↓reduceIte, Nat.reduceEqDiff] using r7
  · refine ⟨by simpa (disch := omega) only [zu_ne] using r8.1, by simpa (disch := omega) only [zu_ne] using r8.2.1, fun j hj => ?_⟩
    obtain ⟨q1, q2, q3⟩ := r8.2.2 j hj
    refine ⟨by simpa (disch := omega) only [zu_ne] using q1, ?_, by simpa (disch := omega) only [zu_ne, zu_nef] using q3⟩
    by_cases hq : j = k <;> simp (disch := omega) only [hq, zu_ne, zu_eq, zu_id, ↓reduceIte]
    exact q2
  · simpa (disch := omega) only [zRt, zRc, zRh, zRf, zRa, zRr, zRk, zRl, zRn, zRx, zRp, zRb, zRg, zW1, zW2, zWt, zWh, zWf, zWn, zWu, zWa, zWr, zWx, zWs, zWb, zWp, zWg, nT, nH, nF, nR, nK, nX, nS, nD, nB, nG, zTown, zPup, zHeads, zRooms, zThere, zHall, zLodg, zLodger, zOf, zHit, zFinds, zKin, zDayH, zu_ne, zu_nef, zu_eq, zu_id, zu_rl, zu_rdL, zu_neL, zu_idL, ↓reduceIte, Nat.reduceEqDiff] using r9
  · simpa (disch := omega) only [zRt, zRc, zRh, zRf, zRa, zRr, zRk, zRl, zRn, zRx, zRp, zRb, zRg, zW1, zW2, zWt, zWh, zWf, zWn, zWu, zWa, zWr, zWx, zWs, zWb, zWp, zWg, nT, nH, nF, nR, nK, nX, nS, nD, nB, nG, zTown, zPup, zHeads, zRooms, zThere, zHall, zLodg, zLodger, zOf, zHit, zFinds, zKin, zDayH, zu_ne, zu_nef, zu_eq, zu_id, zu_rl, zu_rdL, zu_neL, zu_idL, ↓reduceIte, Nat.reduceEqDiff] using r10
  · simpa (disch := omega) only [zRt, zRc, zRh, zRf, zRa, zRr, zRk, zRl, zRn, zRx, zRp, zRb, zRg, zW1, zW2, zWt, zWh, zWf, zWn, zWu, zWa, zWr, zWx, zWs, zWb, zWp, zWg, nT, nH, nF, nR, nK, nX, nS, nD, nB, nG, zTown, zPup, zHeads, zRooms, zThere, zHall, zLodg, zLodger, zOf, zHit, zFinds, zKin, zDayH, zu_ne, zu_nef, zu_eq, zu_id, zu_rl, zu_rdL, zu_neL, zu_idL, ↓reduceIte, Nat.reduceEqDiff] using r11
  · simpa (disch := omega) only [zRt, zRc, zRh, zRf, zRa, zRr, zRk, zRl, zRn, zRx, zRp, zRb, zRg, zW1, zW2, zWt, zWh, zWf, zWn, zWu, zWa, zWr, zWx, zWs, zWb, zWp, zWg, nT, nH, nF, nR, nK, nX, nS, nD, nB, nG, zTown, zPup, zHeads, zRooms, zThere, zHall, zLodg, zLodger, zOf, zHit, zFinds, zKin, zDayH, zu_ne, zu_nef, zu_eq, zu_id, zu_rl, zu_rdL, zu_neL, zu_idL, ↓reduceIte, Nat.reduceEqDiff] using r12
  · simpa (disch := omega) only [zRt, zRc, zRh, zRf, zRa, zRr, zRk, zRl, zRn, zRx, zRp, zRb, zRg, zW1, zW2, zWt, zWh, zWf, zWn, zWu, zWa, zWr, zWx, zWs, zWb, zWp, zWg, nT, nH, nF, nR, nK, nX, nS, nD, nB, nG, zTown, zPup, zHeads, zRooms, zThere, zHall, zLodg, zLodger, zOf, zHit, zFinds, zKin, zDayH, zu_ne, zu_nef, zu_eq, zu_id, zu_rl, zu_rdL, zu_neL, zu_idL, ↓reduceIte, Nat.reduceEqDiff] using r13
theorem ze_22 : ∀ (a1 : Int32) (s : yb_S), zInv s → ∃ (r : Int32) (s1 s2 : yb_S), f_X11_strike a1 s = some (r, s1) ∧ f_X12_strike a1 s1 = some (r, s2) ∧ zInv s2 := by
  intro a1 s h
  obtain ⟨⟨gT, gT8, oT⟩, ⟨gH, gH8, oH⟩, ⟨gF, gF8, oF⟩, ⟨gR, gR8, oR⟩, ⟨gK, gK8, oK⟩, ⟨gX, gX8, oX⟩, ⟨gS, gS8, oS⟩, ⟨gD, gD8, oD⟩, ⟨gB, gB8, oB⟩, ⟨gG, gG8, oG⟩⟩ := zg h
  have hR1 : ∀ j, j < nS s → s.1 56 j = s.1 334 j := fun j hj => (h.2.1.2.2.2.2.2.2.2.1.2.2 j hj).2.1
  unfold f_X11_strike f_X12_strike
  by_cases hc : zin a1 (nS s)
  · obtain ⟨k, hk, rfl⟩ := hc
    by_cases h2 : s.1 334 k = zm
    · refine ⟨1, yb_pI s 56 k (s.1 176 7), yb_pI (yb_pI s 56 k (s.1 176 7)) 334 k (s.1 176 7), ?_, ?_, ?_⟩
      · rw [zo_has5t oS gS8 hk]
        simp (disch := omega) only [hR1 k hk, h2, oD, gD, ↓zmd, zl, zi_div, zi_rem, zi_lt, zi_le, zi_inj, zi_add, zi_sub, zi_addm, zi_eqm, zi_meq, zi_mlt, zi_ltm, zi_lem, zi_mle, zi_tn, zi_rd, zi_wr, zi_rl, zi_wl, zi_ri, zu_ne, zu_nef, zu_eq, zu_id, zu_rl, zu_rdL, zu_neL, zu_idL, Option.bind_some, ↓reduceIte, Nat.reduceEqDiff, if_pos, if_neg]
      · rw [show (yb_pI s 56 k (s.1 176 7)).1 176 54 = zi (nS s) from gS, z_inC1 (by omega) hk]
        simp (disch := omega) only [h2, ↓zmd, zl, zi_div, zi_rem, zi_lt, zi_le, zi_inj, zi_add, zi_sub, zi_addm, zi_eqm, zi_meq, zi_mlt, zi_ltm, zi_lem, zi_mle, zi_tn, zi_rd, zi_wr, zi_rl, zi_wl, zi_ri, zu_ne, zu_nef, zu_eq, zu_id, zu_rl, zu_rdL, zu_neL, zu_idL, Option.bind_some, ↓reduceIte, Nat.reduceEqDiff, if_pos, if_neg]
      · have hk := zk_strike (M := zP s) (o := zO s) hk h.1 h.2.1
        unfold zInv
        simp (disch := omega) only [zP_e, zP_s, zP_k, zP_k0, zP_Ls, zP_Le, zO_e, zO_s, zO_92, zO_92s, zO_100, zO_100s, zO_Ls, zO_Le]
        refine ⟨hk.1, hk.2, ?_, ?_⟩
        · refine zC_congr (fun id q1 q2 => ?_) ?_ ?_ ?_ ?_ (h.2.2.1) <;> simp (disch := omega) only [zu_ne, zu_nef, zu_eq, zu_id, zu_rdL, ↓reduceIte, Nat.reduceEqDiff]
        · (simp (disch := omega) only [zu_ne, zu_id, zu_rdL, ↓reduceIte, Nat.reduceEqDiff]; exact h.2.2.2)
    · refine ⟨0, s, s, ?_, ?_, h⟩
      · rw [zo_has5t oS gS8 hk]
        simp (disch := omega) only [hR1 k hk, h2, ↓zmd, zl, zi_div, zi_rem, zi_lt, zi_le, zi_inj, zi_add, zi_sub, zi_addm, zi_eqm, zi_meq, zi_mlt, zi_ltm, zi_lem, zi_mle, zi_tn, zi_rd, zi_wr, zi_rl, zi_wl, zi_ri, zu_ne, zu_nef, zu_eq, zu_id, zu_rl, zu_rdL, zu_neL, zu_idL, Option.bind_some, ↓reduceIte, Nat.reduceEqDiff, if_pos, if_neg]
      · rw [gS, z_inC1 (by omega) hk]
        simp (disch := omega) only [h2, ↓zmd, zl, zi_div, zi_rem, zi_lt, zi_le, zi_inj, zi_add, zi_sub, zi_addm, zi_eqm, zi_meq, zi_mlt, zi_ltm, zi_lem, zi_mle, zi_tn, zi_rd, zi_wr, zi_rl, zi_wl, zi_ri, zu_ne, zu_nef, zu_eq, zu_id, zu_rl, zu_rdL, zu_neL, zu_idL, Option.bind_some, ↓reduceIte, Nat.reduceEqDiff, if_pos, if_neg]
  · refine ⟨0, s, s, ?_, ?_, h⟩
    · rw [zo_has5f oS gS8 hc]
      rfl
    · rw [gS, z_inC0 (by omega) hc]
      rfl
theorem zk_end {o M : yb_S} {k : Nat} (hn : k ≤ nX M) (hW : zW M) (hR : zR o M) : zW (yb_pI M 176 44 (zi k)) ∧ zR (yb_pI o 92 0 (zi k)) (yb_pI M 176 44 (zi k)) := by
  obtain ⟨w1, w2, w3, w4, w5, w6, w7, w8, w9, w10, w11, w12, w13, w14⟩ := hW
  obtain ⟨r1, r2, r3, r4, r5, r6, r7, r8, r9, r10, r11, r12, r13⟩ := hR
  have bH : (M.1 176 15).toNatClampNeg ≤ 24 := w1.2.2.2.1
  have bF : (M.1 176 27).toNatClampNeg ≤ 24 := w1.2.2.2.2.2.1
  have bX : (M.1 176 44).toNatClampNeg ≤ 500 := w2.2.1
  have bS : (M.1 176 54).toNatClampNeg ≤ 10 := w2.2.2.2.1
  have bD : (M.1 176 7).toNatClampNeg ≤ 200 := w2.2.2.2.2.2.1
  have hx5 : nX M ≤ 500 := w2.2.1
  have hk5 : k ≤ 500 := Nat.le_trans hn hx5
  refine ⟨⟨?_, ?_, ?_, ?_, ?_, ?_, ?_, ?_, ?_, ?_, ?_, ?_, ?_, ?_⟩, ?_, ?_, ?_, ?_, ?_, ?_, ?_, ?_, ?_, ?_, ?_, ?_, ?_⟩
  · simpa (disch := omega) only [zRt, zRc, zRh, zRf, zRa, zRr, zRk, zRl, zRn, zRx, zRp, zRb, zRg, zW1, zW2, zWt, zWh, zWf, zWn, zWu, zWa, zWr, zWx, zWs, zWb, zWp, zWg, nT, nH, nF, nR, nK, nX, nS, nD, nB, nG, zTown, zPup, zHeads, zRooms, zThere, zHall, zLodg, zLodger, zOf, zHit, zFinds, zKin, zDayH, zu_ne, zu_nef, zu_eq, zu_id, zu_rl, zu_rdL, zu_neL, zu_idL, ↓reduceIte, Nat.reduceEqDiff] using w1
  · (have hh := w2; simp (disch := omega) only [zRt, zRc, zRh, zRf, zRa, zRr, zRk, zRl, zRn, zRx, zRp, zRb, zRg, zW1, zW2, zWt, zWh, zWf, zWn, zWu, zWa, zWr, zWx, zWs, zWb, zWp, zWg, nT, nH, nF, nR, nK, nX, nS, nD, nB, nG, zTown, zPup, zHeads, zRooms, zThere, zHall, zLodg, zLodger, zOf, zHit, zFinds, zKin, zDayH, zi_tn, zu_ne, zu_nef, zu_eq, zu_id, zu_rl, zu_rdL, zu_neL, zu_idL, ↓reduceIte, Nat.reduceEqDiff] at hh hn ⊢; grind)
  · simpa (disch := omega) only [zRt, zRc, zRh, zRf, zRa, zRr, zRk, zRl, zRn, zRx, zRp, zRb, zRg, zW1, zW2, zWt, zWh, zWf, zWn, zWu, zWa, zWr, zWx, zWs, zWb, zWp, zWg, nT, nH, nF, nR, nK, nX, nS, nD, nB, nG, zTown, zPup, zHeads, zRooms, zThere, zHall, zLodg, zLodger, zOf, zHit, zFinds, zKin, zDayH, zu_ne, zu_nef, zu_eq, zu_id, zu_rl, zu_rdL, zu_neL, zu_idL, ↓reduceIte, Nat.reduceEqDiff] using w3
  · simpa (disch := omega) only [zRt, zRc, zRh, zRf, zRa, zRr, zRk, zRl, zRn, zRx, zRp, zRb, zRg, zW1, zW2, zWt, zWh, zWf, zWn, zWu, zWa, zWr, zWx, zWs, zWb, zWp, zWg, nT, nH, nF, nR, nK, nX, nS, nD, nB, nG, zTown, zPup, zHeads, zRooms, zThere, zHall, zLodg, zLodger, zOf, zHit, zFinds, zKin, zDayH, zu_ne, zu_nef, zu_eq, zu_id, zu_rl, zu_rdL, zu_neL, zu_idL, ↓reduceIte, Nat.reduceEqDiff] using w4
  · simpa (disch := omega) only [zRt, zRc, zRh, zRf, zRa, zRr, zRk, zRl, zRn, zRx, zRp, zRb, zRg, zW1, zW2, zWt, zWh, zWf, zWn, zWu, zWa, zWr, zWx, zWs, zWb, zWp, zWg, nT, nH, nF, nR, nK, nX, nS, nD, nB, nG, zTown, zPup, zHeads, zRooms, zThere, zHall, zLodg, zLodger, zOf, zHit, zFinds, zKin, zDayH, zu_ne, zu_nef, zu_eq, zu_id, zu_rl, zu_rdL, zu_neL, zu_idL, ↓reduceIte, Nat.reduceEqDiff] using w5
  · simpa (disch := omega) only [zRt, zRc, zRh, zRf, zRa, zRr, zRk, zRl, zRn, zRx, zRp, zRb, zRg, zW1, zW2, zWt, zWh, zWf, zWn, zWu, zWa, zWr, zWx, zWs, zWb, zWp, zWg, nT, nH, nF, nR, nK, nX, nS, nD, nB, nG, zTown, zPup, zHeads, zRooms, zThere, zHall, zLodg, zLodger, zOf, zHit, zFinds, zKin, zDayH, zu_ne, zu_nef, zu_eq, zu_id, zu_rl, zu_rdL, zu_neL, zu_idL, ↓reduceIte, Nat.reduceEqDiff] using w6
  · simpa (disch := omega) only [zRt, zRc, zRh, zRf, zRa, zRr, zRk, zRl, zRn, zRx, zRp, zRb, zRg, zW1, zW2, zWt, zWh, zWf, zWn, zWu, zWa, zWr, zWx, zWs, zWb, zWp, zWg, nT, nH, nF, nR, nK, nX, nS, nD, nB, nG, zTown, zPup, zHeads, zRooms, zThere, zHall, zLodg, zLodger, zOf, zHit, zFinds, zKin, zDayH, zu_ne, zu_nef, zu_eq, zu_id, zu_rl, zu_rdL, zu_neL, zu_idL, ↓reduceIte, Nat.reduceEqDiff] using w7
  · simpa (disch := omega) only [zRt, zRc, zRh, zRf, zRa, zRr, zRk, zRl, zRn, zRx, zRp, zRb, zRg, zW1, zW2, zWt, zWh, zWf, zWn, zWu, zWa, zWr, zWx, zWs, zWb, zWp, zWg, nT, nH, nF, nR, nK, nX, nS, nD, nB, nG, zTown, zPup, zHeads, zRooms, zThere, zHall, zLodg, zLodger, zOf, zHit, zFinds, zKin, zDayH, zu_ne, zu_nef, zu_eq, zu_id, zu_rl, zu_rdL, zu_neL, zu_idL, ↓reduceIte, Nat.reduceEqDiff] using w8
  · simpa (disch := omega) only [zRt, zRc, zRh, zRf, zRa, zRr, zRk, zRl, zRn, zRx, zRp, zRb, zRg, zW1, zW2, zWt, zWh, zWf, zWn, zWu, zWa, zWr, zWx, zWs, zWb, zWp, zWg, nT, nH, nF, nR, nK, nX, nS, nD, nB, nG, zTown, zPup, zHeads, zRooms, zThere, zHall, zLodg, zLodger, zOf, zHit, zFinds, zKin, zDayH, zu_ne, zu_nef, zu_eq, zu_id, zu_rl, zu_rdL, zu_neL, zu_idL, ↓reduceIte, Nat.reduceEqDiff] using w9
  · (have hh := w10; simp (disch := omega) only [zRt, zRc, zRh, zRf, zRa, zRr, zRk, zRl, zRn, zRx, zRp, zRb, zRg, zW1, zW2, zWt, zWh, zWf, zWn, zWu, zWa, zWr, zWx, zWs, zWb, zWp, zWg, nT, nH, nF, nR, nK, nX, nS, nD, nB, nG, zTown, zPup, zHeads, zRooms, zThere, zHall, zLodg, zLodger, zOf, zHit, zFinds, zKin, zDayH, zi_tn, zu_ne, zu_nef, zu_eq, zu_id, zu_rl, zu_rdL, zu_neL, zu_idL, ↓reduceIte, Nat.reduceEqDiff] at hh hn ⊢; grind)
  · simpa (disch := omega) only [zRt, zRc, zRh, zRf, zRa, zRr, zRk, zRl, zRn, zRx, zRp, zRb, zRg, zW1, zW2, zWt, zWh, zWf, zWn, zWu, zWa, zWr, zWx, zWs, zWb, zWp, zWg, nT, nH, nF, nR, nK, nX, nS, nD, nB, nG, zTown, zPup, zHeads, zRooms, zThere, zHall, zLodg, zLodger, zOf, zHit, zFinds, zKin, zDayH, zu_ne, zu_nef, zu_eq, zu_id, zu_rl, zu_rdL, zu_neL, zu_idL, ↓reduceIte, Nat.reduceEqDiff] using w11
  · simpa (disch := omega) only [zRt, zRc, zRh, zRf, zRa, zRr, zRk, zRl, zRn, zRx, zRp, zRb, zRg, zW1, zW2, zWt, zWh, zWf, zWn, zWu, zWa, zWr, zWx, zWs, zWb, zWp, zWg, nT, nH, nF, nR, nK, nX, nS, nD, nB, nG, zTown, zPup, zHeads, zRooms, zThere, zHall, zLodg, zLodger, zOf, zHit, zFinds, zKin, zDayH, zu_ne, zu_nef, zu_eq, zu_id, zu_rl, zu_rdL, zu_neL, zu_idL, ↓reduceIte, Nat.reduceEqDiff] using w12
  · simpa (disch := omega) only [zRt, zRc, zRh, zRf, zRa, zRr, zRk, zRl, zRn, zRx, zRp, zRb, zRg, zW1, zW2, zWt, zWh, zWf, zWn, zWu, zWa, zWr, zWx, zWs, zWb, zWp, zWg, nT, nH, nF, nR, nK, nX, nS, nD, nB, nG, zTown, zPup, zHeads, zRooms, zThere, zHall, zLodg, zLodger, zOf, zHit, zFinds, zKin, zDayH, zu_ne, zu_nef, zu_eq, zu_id, zu_rl, zu_rdL, zu_neL, zu_idL, ↓reduceIte, Nat.reduceEqDiff] using w13
  · simpa (disch := omega) only [zRt, zRc, zRh, zRf, zRa, zRr, zRk, zRl, zRn, zRx, zRp, zRb, zRg, zW1, zW2, zWt, zWh, zWf, zWn, zWu, zWa, zWr, zWx, zWs, zWb, zWp, zWg, nT, nH, nF, nR, nK, nX, nS, nD, nB, nG, zTown, zPup, zHeads, zRooms, zThere, zHall, zLodg, zLodger, zOf, zHit, zFinds, zKin, zDayH, zu_ne, zu_nef, zu_eq, zu_id, zu_rl, zu_rdL, zu_neL, zu_idL, ↓reduceIte, Nat.reduceEqDiff] using w14
  · simpa (disch := omega) only [zRt, zRc, zRh, zRf, zRa, zRr, zRk, zRl, zRn, zRx, zRp, zRb, zRg, zW1, zW2, zWt, zWh, zWf, zWn, zWu, zWa, zWr, zWx, zWs, zWb, zWp, zWg, nT, nH, nF, nR, nK, nX, nS, nD, nB, nG, zTown, zPup, zHeads, zRooms, zThere, zHall, zLodg, zLodger, zOf, zHit, zFinds, zKin, zDayH, zu_ne, zu_nef, zu_eq, zu_id, zu_rl, zu_rdL, zu_neL, zu_idL, ↓reduceIte, Nat.reduceEqDiff] using r1
  · simpa (disch := omega) only [zRt, zRc, zRh, zRf, zRa, zRr, zRk, zRl, zRn, zRx, zRp, zRb, zRg, zW1, zW2, zWt, zWh, zWf, zWn, zWu, zWa, zWr, zWx, zWs, zWb, zWp, zWg, nT, nH, nF, nR, nK, nX, nS, nD, nB, nG, zTown, zPup, zHeads, zRooms, zThere, zHall, zLodg, zLodger, zOf, zHit, zFinds, zKin, zDayH, zu_ne, zu_nef, zu_eq, zu_id, zu_rl, zu_rdL, zu_neL, zu_idL, ↓reduceIte, Nat.reduceEqDiff] using r2
  · simpa (disch := omega) only [zRt, zRc, zRh, zRf, zRa, zRr, zRk, zRl, zRn, zRx, zRp, zRb, zRg, zW1, zW2, zWt, zWh, zWf, zWn, zWu, zWa, zWr, zWx, zWs, zWb, zWp, zWg, nT, nH, nF, nR, nK, nX, nS, nD, nB, nG, zTown, zPup, zHeads, zRooms, zThere, zHall, zLodg, zLodger, zOf, zHit, zFinds, zKin, zDayH, zu_ne, zu_nef, zu_eq, zu_id, zu_rl, zu_rdL, zu_neL, zu_idL, ↓reduceIte, Nat.reduceEqDiff] using r3
  · simpa (disch := omega) only [zRt, zRc, zRh, zRf, zRa, zRr, zRk, zRl, zRn, zRx, zRp, zRb, zRg, zW1, zW2, zWt, zWh, zWf, zWn, zWu, zWa, zWr, zWx, zWs, zWb, zWp, zWg, nT, nH, nF, nR, nK, nX, nS, nD, nB, nG, zTown, zPup, zHeads, zRooms, zThere, zHall, zLodg, zLodger, zOf, zHit, zFinds, zKin, zDayH, zu_ne, zu_nef, zu_eq, zu_id, zu_rl, zu_rdL, zu_neL, zu_idL, ↓reduceIte, Nat.reduceEqDiff] using r4
  · simpa (disch := omega) only [zRt, zRc, zRh, zRf, zRa, zRr, zRk, zRl, zRn, zRx, zRp, zRb, zRg, zW1, zW2, zWt, zWh, zWf, zWn, zWu, zWa, zWr, zWx, zWs, zWb, zWp, zWg, nT, nH, nF, nR, nK, nX, nS, nD, nB, nG, zTown, zPup, zHeads, zRooms, zThere, zHall, zLodg, zLodger, zOf, zHit, zFinds, zKin, zDayH, zu_ne, zu_nef, zu_eq, zu_id, zu_rl, zu_rdL, zu_neL, zu_idL, ↓reduceIte, Nat.reduceEqDiff] using r5
  · simpa (disch := omega) only [zRt, zRc, zRh, zRf, zRa, zRr, zRk, zRl, zRn, zRx, zRp, zRb, zRg, zW1, zW2, zWt, zWh, zWf, zWn, zWu, zWa, zWr, zWx, zWs, zWb, zWp, zWg, nT, nH, nF, nR, nK, nX, nS, nD, nB, nG, zTown, zPup, zHeads, zRooms, zThere, zHall, zLodg, zLodger, zOf, zHit, zFinds, zKin, zDayH, zu_ne, zu_nef, zu_eq, zu_id, zu_rl, zu_rdL, zu_neL, zu_idL, ↓reduceIte, Nat.reduceEqDiff] using r6
  · simpa (disch := omega) only [zRt, zRc, zRh, zRf, zRa, zRr, zRk, zRl, zRn, zRx, zRp, zRb, zRg, zW1, zW2, zWt, zWh, zWf, zWn, zWu, zWa, zWr, zWx, zWs, zWb, zWp, zWg, nT, nH, nF, nR, nK, nX, nS, nD, nB, nG, zTown, zPup, zHeads, zRooms, zThere, zHall, zLodg, zLodger, zOf, zHit, zFinds, zKin, zDayH, zu_ne, zu_nef, zu_eq, zu_id, zu_rl, zu_rdL, zu_neL, zu_idL, ↓reduceIte, Nat.reduceEqDiff] using r7
  · simpa (disch := omega) only [zRt, zRc, zRh, zRf, zRa, zRr, zRk, zRl, zRn, zRx, zRp, zRb, zRg, zW1, zW2, zWt, zWh, zWf, zWn, zWu, zWa, zWr, zWx, zWs, zWb, zWp, zWg, nT, nH, nF, nR, nK, nX, nS, nD, nB, nG, zTown, zPup, zHeads, zRooms, zThere, zHall, zLodg, zLodger, zOf, zHit, zFinds, zKin, zDayH, zu_ne, zu_nef, zu_eq, zu_id, zu_rl, zu_rdL, zu_neL, zu_idL, ↓reduceIte, Nat.reduceEqDiff] using r8
  · simpa (disch := omega) only [zRt, zRc, zRh, zRf, zRa, zRr, zRk, zRl, zRn, zRx, zRp, zRb, zRg, zW1, zW2, zWt, zWh, zWf, zWn, zWu, zWa, zWr, zWx, zWs, zWb, zWp, zWg, nT, nH, nF, nR, nK, nX, nS, nD, nB, nG, zTown, zPup, zHeads, zRooms, zThere, zHall, zLodg, zLodger, zOf, zHit, zFinds, zKin, zDayH, zu_ne, zu_nef, zu_eq, zu_id, zu_rl, zu_rdL, zu_neL, zu_idL, ↓reduceIte, Nat.reduceEqDiff] using r9
  · (have hh := r10; simp (disch := omega) only [zRt, zRc, zRh, zRf, zRa, zRr, zRk, zRl, zRn, zRx, zRp, zRb, zRg, zW1, zW2, zWt, zWh, zWf, zWn, zWu, zWa, zWr, zWx, zWs, zWb, zWp, zWg, nT, nH, nF, nR, nK, nX, nS, nD, nB, nG, zTown, zPup, zHeads, zRooms, zThere, zHall, zLodg, zLodger, zOf, zHit, zFinds, zKin, zDayH, zi_tn, zu_ne, zu_nef, zu_eq, zu_id, zu_rl, zu_rdL, zu_neL, zu_idL, ↓reduceIte, Nat.reduceEqDiff] at hh hn ⊢; grind)
  · simpa (disch := omega) only [zRt, zRc, zRh, zRf, zRa, zRr, zRk, zRl, zRn, zRx, zRp, zRb, zRg, zW1, zW2, zWt, zWh, zWf, zWn, zWu, zWa, zWr, zWx, zWs, zWb, zWp, zWg, nT, nH, nF, nR, nK, nX, nS, nD, nB, nG, zTown, zPup, zHeads, zRooms, zThere, zHall, zLodg, zLodger, zOf, zHit, zFinds, zKin, zDayH, zu_ne, zu_nef, zu_eq, zu_id, zu_rl, zu_rdL, zu_neL, zu_idL, ↓reduceIte, Nat.reduceEqDiff] using r11
  · simpa (disch := omega) only [zRt, zRc, zRh, zRf, zRa, zRr, zRk, zRl, zRn, zRx, zRp, zRb, zRg, zW1, zW2, zWt, zWh, zWf, zWn, zWu, zWa, zWr, zWx, zWs, zWb, zWp, zWg, nT, nH, nF, nR, nK, nX, nS, nD, nB, nG, zTown, zPup, zHeads, zRooms, zThere, zHall, zLodg, zLodger, zOf, zHit, zFinds, zKin, zDayH, zu_ne, zu_nef, zu_eq, zu_id, zu_rl, zu_rdL, zu_neL, zu_idL, ↓reduceIte, Nat.reduceEqDiff] using r12
  · simpa (disch := omega) only [zRt, zRc, zRh, zRf, zRa, zRr, zRk, zRl, zRn, zRx, zRp, zRb, zRg, zW1, zW2, zWt, zWh, zWf, zWn, zWu, zWa, zWr, zWx, zWs, zWb, zWp, zWg, nT, nH, nF, nR, nK, nX, nS, nD, nB, nG, zTown, zPup, zHeads, zRooms, zThere, zHall, zLodg, zLodger, zOf, zHit, zFinds, zKin, zDayH, zu_ne, zu_nef, zu_eq, zu_id, zu_rl, zu_rdL, zu_neL, zu_idL, ↓reduceIte, Nat.reduceEqDiff] using r13
theorem ze_19 : ∀ (a1 : Int32) (s : yb_S), zInv s → ∃ (r : Int32) (s1 s2 : yb_S), f_X11_end a1 s = some (r, s1) ∧ f_X12_end a1 s1 = some (r, s2) ∧ zInv s2 := by
  intro a1 s h
  obtain ⟨⟨gT, gT8, oT⟩, ⟨gH, gH8, oH⟩, ⟨gF, gF8, oF⟩, ⟨gR, gR8, oR⟩, ⟨gK, gK8, oK⟩, ⟨gX, gX8, oX⟩, ⟨gS, gS8, oS⟩, ⟨gD, gD8, oD⟩, ⟨gB, gB8, oB⟩, ⟨gG, gG8, oG⟩⟩ := zg h
  unfold f_X11_end f_X12_end
  rcases zi_cases a1 with h1 | ⟨k, hk, rfl⟩
  · exact ⟨0, s, s, by simp (disch := omega) only [h1, ↓zmd, zl, zi_div, zi_rem, zi_lt, zi_le, zi_inj, zi_add, zi_sub, zi_addm, zi_eqm, zi_meq, zi_mlt, zi_ltm, zi_lem, zi_mle, zi_tn, zi_rd, zi_wr, zi_rl, zi_wl, zi_ri, zu_ne, zu_nef, zu_eq, zu_id, zu_rl, zu_rdL, zu_neL, zu_idL, Option.bind_some, ↓reduceIte, Nat.reduceEqDiff, if_pos, if_neg], by rw [z_inN h1 (by decide)]; rfl, h⟩
  · by_cases hc : k ≤ nX s
    · refine ⟨1, yb_pI s 92 0 (zi k), yb_pI (yb_pI s 92 0 (zi k)) 176 44 (zi k), ?_, ?_, ?_⟩
      · simp (disch := omega) only [oX, ↓zmd, zl, zi_div, zi_rem, zi_lt, zi_le, zi_inj, zi_add, zi_sub, zi_addm, zi_eqm, zi_meq, zi_mlt, zi_ltm, zi_lem, zi_mle, zi_tn, zi_rd, zi_wr, zi_rl, zi_wl, zi_ri, zu_ne, zu_nef, zu_eq, zu_id, zu_rl, zu_rdL, zu_neL, zu_idL, Option.bind_some, ↓reduceIte, Nat.reduceEqDiff, if_pos, if_neg]
      · rw [show (yb_pI s 92 0 (zi k)).1 176 44 = zi (nX s) from gX, z_inZ (a := 0) (b := nX s) (by decide) rfl hk (by decide) (by omega)]
        simp (disch := omega) only [↓zmd, zl, zi_div, zi_rem, zi_lt, zi_le, zi_inj, zi_add, zi_sub, zi_addm, zi_eqm, zi_meq, zi_mlt, zi_ltm, zi_lem, zi_mle, zi_tn, zi_rd, zi_wr, zi_rl, zi_wl, zi_ri, zu_ne, zu_nef, zu_eq, zu_id, zu_rl, zu_rdL, zu_neL, zu_idL, Option.bind_some, ↓reduceIte, Nat.reduceEqDiff, if_pos, if_neg]
      · have hk := zk_end (M := zP s) (o := zO s) hc h.1 h.2.1
        unfold zInv
        simp (disch := omega) only [zP_e, zP_s, zP_k, zP_k0, zP_Ls, zP_Le, zO_e, zO_s, zO_92, zO_92s, zO_100, zO_100s, zO_Ls, zO_Le]
        refine ⟨hk.1, hk.2, ?_, ?_⟩
        · refine zC_congr (fun id q1 q2 => ?_) ?_ ?_ ?_ ?_ (h.2.2.1) <;> simp (disch := omega) only [zu_ne, zu_nef, zu_eq, zu_id, zu_rdL, ↓reduceIte, Nat.reduceEqDiff]
        · (simp (disch := omega) only [zu_ne, zu_id, zu_rdL, ↓reduceIte, Nat.reduceEqDiff]; exact h.2.2.2)
    · refine ⟨0, s, s, ?_, ?_, h⟩
      · simp (disch := omega) only [oX, ↓zmd, zl, zi_div, zi_rem, zi_lt, zi_le, zi_inj, zi_add, zi_sub, zi_addm, zi_eqm, zi_meq, zi_mlt, zi_ltm, zi_lem, zi_mle, zi_tn, zi_rd, zi_wr, zi_rl, zi_wl, zi_ri, zu_ne, zu_nef, zu_eq, zu_id, zu_rl, zu_rdL, zu_neL, zu_idL, Option.bind_some, ↓reduceIte, Nat.reduceEqDiff, if_pos, if_neg]
      · rw [gX, z_inZ (a := 0) (b := nX s) (by decide) rfl hk (by decide) (by omega)]
        simp (disch := omega) only [↓zmd, zl, zi_div, zi_rem, zi_lt, zi_le, zi_inj, zi_add, zi_sub, zi_addm, zi_eqm, zi_meq, zi_mlt, zi_ltm, zi_lem, zi_mle, zi_tn, zi_rd, zi_wr, zi_rl, zi_wl, zi_ri, zu_ne, zu_nef, zu_eq, zu_id, zu_rl, zu_rdL, zu_neL, zu_idL, Option.bind_some, ↓reduceIte, Nat.reduceEqDiff, if_pos, if_neg]
theorem zk_boat {o M : yb_S} {n j : Nat} {x y : Int32} (hn : n = nB M) (h8 : n < 40) (hj : j ≤ 200) (hW : zW M) (hR : zR o M) : zW (yb_pI (yb_pI (yb_pI (yb_pI M 598 n (zi j)) 599 n x) 600 n y) 176 84 (zi (n + 1))) ∧ zR (yb_pI (yb_pI (yb_pI o 173 j (o.1 173 j + x)) 174 j (o.1 174 j + y)) 172 0 (zi (n + 1))) (yb_pI (yb_pI (yb_pI (yb_pI M 598 n (zi j)) 599 n x) 600 n y) 176 84 (zi (n + 1))) := by
  obtain ⟨w1, w2, w3, w4, w5, w6, w7, w8, w9, w10, w11, w12, w13, w14⟩ := hW
  obtain ⟨r1, r2, r3, r4, r5, r6, r7, r8, r9, r10, r11, r12, r13⟩ := hR
  have bH : (M.1 176 15).toNatClampNeg ≤ 24 := w1.2.2.2.1
  have bF : (M.1 176 27).toNatClampNeg ≤ 24 := w1.2.2.2.2.2.1
  have bX : (M.1 176 44).toNatClampNeg ≤ 500 := w2.2.1
  have bS : (M.1 176 54).toNatClampNeg ≤ 10 := w2.2.2.2.1
  have bD : (M.1 176 7).toNatClampNeg ≤ 200 := w2.2.2.2.2.2.1
  refine ⟨⟨?_, ?_, ?_, ?_, ?_, ?_, ?_, ?_, ?_, ?_, ?_, ?_, ?_, ?_⟩, ?_, ?_, ?_, ?_, ?_, ?_, ?_, ?_, ?_, ?_, ?_, ?_, ?_⟩
  · simpa (disch := omega) only [zRt, zRc, zRh, zRf, zRa, zRr, zRk, zRl, zRn, zRx, zRp, zRb, zRg, zW1, zW2, zWt, zWh, zWf, zWn, zWu, zWa, zWr, zWx, zWs, zWb, zWp, zWg, nT, nH, nF, nR, nK, nX, nS, nD, nB, nG, zTown, zPup, zHeads, zRooms, zThere, zHall, zLodg, zLodger, zOf, zHit, zFinds, zKin, zDayH, zu_ne, zu_nef, zu_eq, zu_id, zu_rl, zu_rdL, zu_neL, zu_idL, ↓reduceIte, Nat.reduceEqDiff] using w1
  · (have hh := w2; simp (disch := omega) only [zRt, zRc, zRh, zRf, zRa, zRr, zRk, zRl, zRn, zRx, zRp, zRb, zRg, zW1, zW2, zWt, zWh, zWf, zWn, zWu, zWa, zWr, zWx, zWs, zWb, zWp, zWg, nT, nH, nF, nR, nK, nX, nS, nD, nB, nG, zTown, zPup, zHeads, zRooms, zThere, zHall, zLodg, zLodger, zOf, zHit, zFinds, zKin, zDayH, zi_tn, zu_ne, zu_nef, zu_eq, zu_id, zu_rl, zu_rdL, zu_neL, zu_idL, ↓reduceIte, Nat.reduceEqDiff] at hh hn ⊢; grind)
  · simpa (disch := omega) only [zRt, zRc, zRh, zRf, zRa, zRr, zRk, zRl, zRn, zRx, zRp, zRb, zRg, zW1, zW2, zWt, zWh, zWf, zWn, zWu, zWa, zWr, zWx, zWs, zWb, zWp, zWg, nT, nH, nF, nR, nK, nX, nS, nD, nB, nG, zTown, zPup, zHeads, zRooms, zThere, zHall, zLodg, zLodger, zOf, zHit, zFinds, zKin, zDayH, zu_ne, zu_nef, zu_eq, zu_id, zu_rl, zu_rdL, zu_neL, zu_idL, ↓reduceIte, Nat.reduceEqDiff] using w3
  · simpa (disch := omega) only [zRt, zRc, zRh, zRf, zRa, zRr, zRk, zRl, zRn, zRx, zRp, zRb, zRg, zW1, zW2, zWt, zWh, zWf, zWn, zWu, zWa, zWr, zWx, zWs, zWb, zWp, zWg, nT, nH, nF, nR, nK, nX, nS, nD, nB, nG, zTown, zPup, zHeads, zRooms, zThere, zHall, zLodg, zLodger, zOf, zHit, zFinds, zKin, zDayH, zu_ne, zu_nef, zu_eq, zu_id, zu_rl, zu_rdL, zu_neL, zu_idL, ↓reduceIte, Nat.reduceEqDiff] using w4
  · simpa (disch := omega) only [zRt, zRc, zRh, zRf, zRa, zRr, zRk, zRl, zRn, zRx, zRp, zRb, zRg, zW1, zW2, zWt, zWh, zWf, zWn, zWu, zWa, zWr, zWx, zWs, zWb, zWp, zWg, nT, nH, nF, nR, nK, nX, nS, nD, nB, nG, zTown, zPup, zHeads, zRooms, zThere, zHall, zLodg, zLodger, zOf, zHit, zFinds, zKin, zDayH, zu_ne, zu_nef, zu_eq, zu_id, zu_rl, zu_rdL, zu_neL, zu_idL, ↓reduceIte, Nat.reduceEqDiff] using w5
  · simpa (disch := omega) only [zRt, zRc, zRh, zRf, zRa, zRr, zRk, zRl, zRn, zRx, zRp, zRb, zRg, zW1, zW2, zWt, zWh, zWf, zWn, zWu, zWa, zWr, zWx, zWs, zWb, zWp, zWg, nT, nH, nF, nR, nK, nX, nS, nD, nB, nG, zTown, zPup, zHeads, zRooms, zThere, zHall, zLodg, zLodger, zOf, zHit, zFinds, zKin, zDayH, zu_ne, zu_nef, zu_eq, zu_id, zu_rl, zu_rdL, zu_neL, zu_idL, ↓reduceIte, Nat.reduceEqDiff] using w6
  · simpa (disch := omega) only [zRt, zRc, zRh, zRf, zRa, zRr, zRk, zRl, zRn, zRx, zRp, zRb, zRg, zW1, zW2, zWt, zWh, zWf, zWn, zWu, zWa, zWr, zWx, zWs, zWb, zWp, zWg, nT, nH, nF, nR, nK, nX, nS, nD, nB, nG, zTown, zPup, zHeads, zRooms, zThere, zHall, zLodg, zLodger, zOf, zHit, zFinds, zKin, zDayH, zu_ne, zu_nef, zu_eq, zu_id, zu_rl, zu_rdL, zu_neL, zu_idL, ↓reduceIte, Nat.reduceEqDiff] using w7
  · simpa (disch := omega) only [zRt, zRc, zRh, zRf, zRa, zRr, zRk, zRl, zRn, zRx, zRp, zRb, zRg, zW1, zW2, zWt, zWh, zWf, zWn, zWu, zWa, zWr, zWx, zWs, zWb, zWp, zWg, nT, nH, nF, nR, nK, nX, nS, nD, nB, nG, zTown, zPup, zHeads, zRooms, zThere, zHall, zLodg, zLodger, zOf, zHit, zFinds, zKin, zDayH, zu_ne, zu_nef, zu_eq, zu_id, zu_rl, zu_rdL, zu_neL, zu_idL, ↓reduceIte, Nat.reduceEqDiff] using w8
  · simpa (disch := omega) only [zRt, zRc, zRh, zRf, zRa, zRr, zRk, zRl, zRn, zRx, zRp, zRb, zRg, zW1, zW2, zWt, zWh, zWf, zWn, zWu, zWa, zWr, zWx, zWs, zWb, zWp, zWg, nT, nH, nF, nR, nK, nX, nS, nD, nB, nG, zTown, zPup, zHeads, zRooms, zThere, zHall, zLodg, zLodger, zOf, zHit, zFinds, zKin, zDayH, zu_ne, zu_nef, zu_eq, zu_id, zu_rl, zu_rdL, zu_neL, zu_idL, ↓reduceIte, Nat.reduceEqDiff] using w9
  · simpa (disch := omega) only [zRt, zRc, zRh, zRf, zRa, zRr, zRk, zRl, zRn, zRx, zRp, zRb, zRg, zW1, zW2, zWt, zWh, zWf, zWn, zWu, zWa, zWr, zWx, zWs, zWb, zWp, zWg, nT, nH, nF, nR, nK, nX, nS, nD, nB, nG, zTown, zPup, zHeads, zRooms, zThere, zHall, zLodg, zLodger, zOf, zHit, zFinds, zKin, zDayH, zu_ne, zu_nef, zu_eq, zu_id, zu_rl, zu_rdL, zu_neL, zu_idL, ↓reduceIte, Nat.reduceEqDiff] using w10
  · simpa (disch := omega) only [zRt, zRc, zRh, zRf, zRa, zRr, zRk, zRl, zRn, zRx, zRp, zRb, zRg, zW1, zW2, zWt, zWh, zWf, zWn, zWu, zWa, zWr, zWx, zWs, zWb, zWp, zWg, nT, nH, nF, nR, nK, nX, nS, nD, nB, nG, zTown, zPup, zHeads, zRooms, zThere, zHall, zLodg, zLodger, zOf, zHit, zFinds, zKin, zDayH, zu_ne, zu_nef, zu_eq, zu_id, zu_rl, zu_rdL, zu_neL, zu_idL, ↓reduceIte, Nat.reduceEqDiff] using w11
  · simpa (disch := omega) only [zRt, zRc, zRh, zRf, zRa, zRr, zRk, zRl, zRn, zRx, zRp, zRb, zRg, zW1, zW2, zWt, zWh, zWf, zWn, zWu, zWa, zWr, zWx, zWs, zWb, zWp, zWg, nT, nH, nF, nR, nK, nX, nS, nD, nB, nG, zTown, zPup, zHeads, zRooms, zThere, zHall, zLodg, zLodger, zOf, zHit, zFinds, zKin, zDayH, zu_ne, zu_nef, zu_eq, zu_id, zu_rl, zu_rdL, zu_neL, zu_idL, ↓reduceIte, Nat.reduceEqDiff] using w12
  · simpa (disch := omega) only [zRt, zRc, zRh, zRf, zRa, zRr, zRk, zRl, zRn, zRx, zRp, zRb, zRg, zW1, zW2, zWt, zWh, zWf, zWn, zWu, zWa, zWr, zWx, zWs, zWb, zWp, zWg, nT, nH, nF, nR, nK, nX, nS, nD, nB, nG, zTown, zPup, zHeads, zRooms, zThere, zHall, zLodg, zLodger, zOf, zHit, zFinds, zKin, zDayH, zu_ne, zu_nef, zu_eq, zu_id, zu_rl, zu_rdL, zu_neL, zu_idL, ↓reduceIte, Nat.reduceEqDiff] using w13
  · refine ⟨fun k hk => ?_, w14.2⟩
    have hh := w14.1 k
    by_cases hq : k = n <;> simp (disch := omega) only [nB, hq, zi_tn, zu_ne, zu_id, zu_eq, ↓reduceIte, Nat.reduceEqDiff] at hh hk hn ⊢
    · exact ⟨j, hj, rfl⟩
    · exact hh (by omega)
  · simpa (disch := omega) only [zRt, zRc, zRh, zRf, zRa, zRr, zRk, zRl, zRn, zRx, zRp, zRb, zRg, zW1, zW2, zWt, zWh, zWf, zWn, zWu, zWa, zWr, zWx, zWs, zWb, zWp, zWg, nT, nH, nF, nR, nK, nX, nS, nD, nB, nG, zTown, zPup, zHeads, zRooms, zThere, zHall, zLodg, zLodger, zOf, zHit, zFinds, zKin, zDayH, zu_ne, zu_nef, zu_eq, zu_id, zu_rl, zu_rdL, zu_neL, zu_idL, ↓reduceIte, Nat.reduceEqDiff] using r1
  · simpa (disch := omega) only [zRt, zRc, zRh, zRf, zRa, zRr, zRk, zRl, zRn, zRx, zRp, zRb, zRg, zW1, zW2, zWt, zWh, zWf, zWn, zWu, zWa, zWr, zWx, zWs, zWb, zWp, zWg, nT, nH, nF, nR, nK, nX, nS, nD, nB, nG, zTown, zPup, zHeads, zRooms, zThere, zHall, zLodg, zLodger, zOf, zHit, zFinds, zKin, zDayH, zu_ne, zu_nef, zu_eq, zu_id, zu_rl, zu_rdL, zu_neL, zu_idL, ↓reduceIte, Nat.reduceEqDiff] using r2
  · simpa (disch := omega) only [zRt, zRc, zRh, zRf, zRa, zRr, zRk, zRl, zRn, zRx, zRp, zRb, zRg, zW1, zW2, zWt, zWh, zWf, zWn, zWu, zWa, zWr, zWx, zWs, zWb, zWp, zWg, nT, nH, nF, nR, nK, nX, nS, nD, nB, nG, zTown, zPup, zHeads, zRooms, zThere, zHall, zLodg, zLodger, zOf, zHit, zFinds, zKin, zDayH, zu_ne, zu_nef, zu_eq, zu_id, zu_rl, zu_rdL, zu_neL, zu_idL, ↓reduceIte, Nat.reduceEqDiff] using r3
  · simpa (disch := omega) only [zRt, zRc, zRh, zRf, zRa, zRr, zRk, zRl, zRn, zRx, zRp, zRb, zRg, zW1, zW2, zWt, zWh, zWf, zWn, zWu, zWa, zWr, zWx, zWs, zWb, zWp, zWg, nT, nH, nF, nR, nK, nX, nS, nD, nB, nG, zTown, zPup, zHeads, zRooms, zThere, zHall, zLodg, zLodger, zOf, zHit, zFinds, zKin, zDayH, zu_ne, zu_nef, zu_eq, zu_id, zu_rl, zu_rdL, zu_neL, zu_idL, ↓reduceIte, Nat.reduceEqDiff] using r4
  · simpa (disch := omega) only [zRt, zRc, zRh, zRf, zRa, zRr, zRk, zRl, zRn, zRx, zRp, zRb, zRg, zW1, zW2, zWt, zWh, zWf, zWn, zWu, zWa, zWr, zWx, zWs, zWb, zWp, zWg, nT, nH, nF, nR, nK, nX, nS, nD, nB, nG, zTown, zPup, zHeads, zRooms, zThere, zHall, zLodg, zLodger, zOf, zHit, zFinds, zKin, zDayH, zu_ne, zu_nef, zu_eq, zu_id, zu_rl, zu_rdL, zu_neL, zu_idL, ↓reduceIte, Nat.reduceEqDiff] using r5
  · simpa (disch := omega) only [zRt, zRc, zRh, zRf, zRa, zRr, zRk, zRl, zRn, zRx, zRp, zRb, zRg, zW1, zW2, zWt, zWh, zWf, zWn, zWu, zWa, zWr, zWx, zWs, zWb, zWp, zWg, nT, nH, nF, nR, nK, nX, nS, nD, nB, nG, zTown, zPup, zHeads, zRooms, zThere, zHall, zLodg, zLodger, zOf, zHit, zFinds, zKin, zDayH, zu_ne, zu_nef, zu_eq, zu_id, zu_rl, zu_rdL, zu_neL, zu_idL, ↓reduceIte, Nat.reduceEqDiff] using r6
  · simpa (disch := omega) only [zRt, zRc, zRh, zRf, zRa, zRr, zRk, zRl, zRn, zRx, zRp, zRb, zRg, zW1, zW2, zWt, zWh, zWf, zWn, zWu, zWa, zWr, zWx, zWs, zWb, zWp, zWg, nT, nH, nF, nR, nK, nX, nS, nD, nB, nG, zTown, zPup, zHeads, zRooms, zThere, zHall, zLodg, zLodger, zOf, zHit, zFinds, zKin, zDayH, zu_ne, zu_nef, zu_eq, zu_id, zu_rl, zu_rdL, zu_neL, zu_idL, ↓reduceIte, Nat.reduceEqDiff] using r7
  · simpa (disch := omega) only [zRt, zRc, zRh, zRf, zRa, zRr, zRk, zRl, zRn, zRx, zRp, zRb, zRg, zW1, zW2, zWt, zWh, zWf, zWn, zWu, zWa, zWr, zWx, zWs, zWb, zWp, zWg, nT, nH, nF, nR, nK, nX, nS, nD, nB, nG, zTown, zPup, zHeads, zRooms, zThere, zHall, zLodg, zLodger, zOf, zHit, zFinds, zKin, zDayH, zu_ne, zu_nef, zu_eq, zu_id, zu_rl, zu_rdL, zu_neL, zu_idL, ↓reduceIte, Nat.reduceEqDiff] using r8
  · simpa (disch := omega) only [zRt, zRc, zRh, zRf, zRa, zRr, zRk, zRl, zRn, zRx, zRp, zRb, zRg, zW1, zW2, zWt, zWh, zWf, zWn, zWu, zWa, zWr, zWx, zWs, zWb, zWp, zWg, nT, nH, nF, nR, nK, nX, nS, nD, nB, nG, zTown, zPup, zHeads, zRooms, zThere, zHall, zLodg, zLodger, zOf, zHit, zFinds, zKin, zDayH, zu_ne, zu_nef, zu_eq, zu_id, zu_rl, zu_rdL, zu_neL, zu_idL, ↓reduceIte, Nat.reduceEqDiff] using r9
  · simpa (disch := omega) only [zRt, zRc, zRh, zRf, zRa, zRr, zRk, zRl, zRn, zRx, zRp, zRb, zRg, zW1, zW2, zWt, zWh, zWf, zWn, zWu, zWa, zWr, zWx, zWs, zWb, zWp, zWg, nT, nH, nF, nR, nK, nX, nS, nD, nB, nG, zTown, zPup, zHeads, zRooms, zThere, zHall, zLodg, zLodger, zOf, zHit, zFinds, zKin, zDayH, zu_ne, zu_nef, zu_eq, zu_id, zu_rl, zu_rdL, zu_neL, zu_idL, ↓reduceIte, Nat.reduceEqDiff] using r10
  · simpa (disch := omega) only [zRt, zRc, zRh, zRf, zRa, zRr, zRk, zRl, zRn, zRx, zRp, zRb, zRg, zW1, zW2, zWt, zWh, zWf, zWn, zWu, zWa, zWr, zWx, zWs, zWb, zWp, zWg, nT, nH, nF, nR, nK, nX, nS, nD, nB, nG, zTown, zPup, zHeads, zRooms, zThere, zHall, zLodg, zLodger, zOf, zHit, zFinds, zKin, zDayH, zu_ne, zu_nef, zu_eq, zu_id, zu_rl, zu_rdL, zu_neL, zu_idL, ↓reduceIte, Nat.reduceEqDiff] using r11
  · simpa (disch := omega) only [zRt, zRc, zRh, zRf, zRa, zRr, zRk, zRl, zRn, zRx, zRp, zRb, zRg, zW1, zW2, zWt, zWh, zWf, zWn, zWu, zWa, zWr, zWx, zWs, zWb, zWp, zWg, nT, nH, nF, nR, nK, nX, nS, nD, nB, nG, zTown, zPup, zHeads, zRooms, zThere, zHall, zLodg, zLodger, zOf, zHit, zFinds, zKin, zDayH, zu_ne, zu_nef, zu_eq, zu_id, zu_rl, zu_rdL, zu_neL, zu_idL, ↓reduceIte, Nat.reduceEqDiff] using r12
  · obtain ⟨q1, q2, q3⟩ := r13
    have hg : ∀ {g : Nat → Int32} {z : Int32} {e : Nat} {N : yb_S} (h598 : N.1 598 = fun k => if k = n then zi j else M.1 598 k) (v : Nat) (hv : N.1 v = fun k => if k = n then z else M.1 v k), zsum (fun k => cond (N.1 598 k == zi e) (N.1 v k) 0) (n + 1) = zsum (fun k => cond (M.1 598 k == zi e) (M.1 v k) 0) (nB M) + cond (zi j == zi e) z 0 := by
      intro g z e N h598 v hv
      rw [zsum_succ, zsum_congr (g' := fun k => cond (M.1 598 k == zi e) (M.1 v k) 0) (fun k hk => by rw [h598, hv]; simp (disch := omega) only [if_neg]), ← hn, h598, hv]
      simp only [↓reduceIte]
    have hnb : nB (yb_pI (yb_pI (yb_pI (yb_pI M 598 n (zi j)) 599 n x) 600 n y) 176 84 (zi (n + 1))) = n + 1 := by
      unfold nB
      simp (disch := omega) only [zu_eq, zi_tn]
    refine ⟨by simp (disch := omega) only [zu_ne, zu_eq, zu_id, ↓reduceIte], by simp (disch := omega) only [zu_ne, zu_eq, zu_id, ↓reduceIte, Nat.reduceEqDiff]; exact q2, fun e he => ?_⟩
    have hq3 := q3 e he
    rw [hnb]
    refine ⟨?_, ?_, ?_⟩
    · rw [hg (g := fun _ => 0) (z := x) (by funext k; simp (disch := omega) only [zu_ne, zu_id]) 599 (by funext k; simp (disch := omega) only [zu_ne, zu_id]), ← hq3.1]
      simp (disch := omega) only [zu_ne, zu_id]
      by_cases hje : e = j
      · subst hje; simp
      · rw [if_neg hje, show (zi j == zi e) = false from beq_eq_false_iff_ne.mpr (by rw [ne_eq, zi_inj (by omega) (by omega)]; omega)]
        simp
    · rw [hg (g := fun _ => 0) (z := y) (by funext k; simp (disch := omega) only [zu_ne, zu_id]) 600 (by funext k; simp (disch := omega) only [zu_ne, zu_id]), ← hq3.2.1]
      simp (disch := omega) only [zu_ne, zu_id]
      by_cases hje : e = j
      · subst hje; simp
      · rw [if_neg hje, show (zi j == zi e) = false from beq_eq_false_iff_ne.mpr (by rw [ne_eq, zi_inj (by omega) (by omega)]; omega)]
        simp
    · have := hq3.2.2
      simpa (disch := omega) only [nG, zu_ne, zu_nef, zu_id, ↓reduceIte, Nat.reduceEqDiff] using this
theorem ze_38 : ∀ (a1 a2 a3 : Int32) (s : yb_S), zInv s → ∃ (r : Int32) (s1 s2 : yb_S), f_X11_boat a1 a2 a3 s = some (r, s1) ∧ f_X12_boat a1 a2 a3 s1 = some (r, s2) ∧ zInv s2 := by
  intro a1 a2 a3 s h
  obtain ⟨⟨gT, gT8, oT⟩, ⟨gH, gH8, oH⟩, ⟨gF, gF8, oF⟩, ⟨gR, gR8, oR⟩, ⟨gK, gK8, oK⟩, ⟨gX, gX8, oX⟩, ⟨gS, gS8, oS⟩, ⟨gD, gD8, oD⟩, ⟨gB, gB8, oB⟩, ⟨gG, gG8, oG⟩⟩ := zg h
  unfold f_X11_boat f_X11_isAhead f_X3_addBoat f_X12_boat
  rcases zi_cases a1 with h1 | ⟨j, hj, rfl⟩
  · refine ⟨-1, s, s, ?_, ?_, h⟩
    · rw [oD, if_pos (show a1 < zi (nD s) from Int32.lt_of_lt_of_le h1 (by rw [zi_le (by omega) (by omega)]; omega))]
      rfl
    · rw [gD, z_inN h1 (by rw [show (0 : Int64) = (zi 0).toInt64 from rfl, z64_le, zi_le (by omega) (by omega)]; omega)]
      rfl
  by_cases hc : nD s ≤ j ∧ j ≤ 200 ∧ 0 ≤ a2 ∧ a2 ≤ a3 ∧ a3 ≤ 200 ∧ nB s < 40
  · obtain ⟨c1, c2, c3, c4, c5, c6⟩ := hc
    have d3 : ¬ a2 < 0 := Int32.not_lt.mpr c3
    have d4 : ¬ a3 < a2 := Int32.not_lt.mpr c4
    have d5 : ¬ 200 < a3 := Int32.not_lt.mpr c5
    refine ⟨zi (nB s + 1), yb_pI (yb_pI (yb_pI s 173 j (s.1 173 j + a2)) 174 j (s.1 174 j + a3)) 172 0 (zi (nB s + 1)), yb_pI (yb_pI (yb_pI (yb_pI (yb_pI (yb_pI (yb_pI s 173 j (s.1 173 j + a2)) 174 j (s.1 174 j + a3)) 172 0 (zi (nB s + 1))) 598 (nB s) (zi j)) 599 (nB s) a2) 600 (nB s) a3) 176 84 (zi (nB s + 1)), ?_, ?_, ?_⟩
    · rw [if_neg d3, if_neg d4, if_pos c5]
      simp (disch := omega) only [oD, oB, ↓zmd, zl, zi_div, zi_rem, zi_lt, zi_le, zi_inj, zi_add, zi_sub, zi_addm, zi_eqm, zi_meq, zi_mlt, zi_ltm, zi_lem, zi_mle, zi_tn, zi_rd, zi_wr, zi_rl, zi_wl, zi_ri, zu_ne, zu_nef, zu_eq, zu_id, zu_rl, zu_rdL, zu_neL, zu_idL, Option.bind_some, ↓reduceIte, Nat.reduceEqDiff, if_pos, if_neg]
    · rw [show ∀ u, (yb_pI (yb_pI (yb_pI s 173 j (s.1 173 j + a2)) 174 j (s.1 174 j + a3)) 172 0 u).1 176 7 = zi (nD s) from fun _ => gD, z_inZ (a := nD s) (b := 200) rfl (by decide) hj (by omega) (by decide), if_pos ⟨c1, c2⟩, if_neg d3, if_neg d4, if_neg d5]
      simp (disch := omega) only [gB, ↓zmd, zl, zi_div, zi_rem, zi_lt, zi_le, zi_inj, zi_add, zi_sub, zi_addm, zi_eqm, zi_meq, zi_mlt, zi_ltm, zi_lem, zi_mle, zi_tn, zi_rd, zi_wr, zi_rl, zi_wl, zi_ri, zu_ne, zu_nef, zu_eq, zu_id, zu_rl, zu_rdL, zu_neL, zu_idL, Option.bind_some, ↓reduceIte, Nat.reduceEqDiff, if_pos, if_neg]
    · have hk := zk_boat (M := zP s) (o := zO s) (n := nB s) (x := a2) (y := a3) rfl c6 c2 h.1 h.2.1
      unfold zInv
      simp (disch := omega) only [zP_e, zP_s, zP_k, zP_k0, zP_Ls, zP_Le, zO_e, zO_s, zO_92, zO_92s, zO_100, zO_100s, zO_Ls, zO_Le]
      refine ⟨hk.1, hk.2, ?_, ?_⟩
      · refine zC_congr (fun id q1 q2 => ?_) ?_ ?_ ?_ ?_ (h.2.2.1) <;> simp (disch := omega) only [zu_ne, zu_nef, zu_eq, zu_id, zu_rdL, ↓reduceIte, Nat.reduceEqDiff]
      · (simp (disch := omega) only [zu_ne, zu_id, zu_rdL, ↓reduceIte, Nat.reduceEqDiff]; exact h.2.2.2)
  · have d3 : (0 ≤ a2) = ¬ (a2 < 0) := propext Int32.not_lt.symm
    have d4 : (a2 ≤ a3) = ¬ (a3 < a2) := propext Int32.not_lt.symm
    have d5 : (a3 ≤ 200) = ¬ (200 < a3) := propext Int32.not_lt.symm
    have h40 : nB s = 40 ↔ ¬ nB s < 40 := by omega
    refine ⟨-1, s, s, ?_, ?_, h⟩
    · rw [oD, oB, show (200 : Int32) = zi 200 from rfl, show (40 : Int32) = zi 40 from rfl]
      simp only [zi_lt hj (by omega : nD s < 2147483648), zi_lt (by omega : 200 < 2147483648) hj, zi_lt (by omega : nB s < 2147483648) (by omega : 40 < 2147483648)]
      rw [show (200 : Int32) = zi 200 from rfl] at hc
      grind (splits := 20)
    · rw [gD, z_inZ (a := nD s) (b := 200) rfl (by decide) hj (by omega) (by decide), gB, show (40 : Int32) = zi 40 from rfl]
      simp only [zi_inj (by omega : nB s < 2147483648) (by omega : 40 < 2147483648)]
      grind (splits := 20)
