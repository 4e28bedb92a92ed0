/-! forget, and place -/
def zFw (M : yb_S) : yb_S := (fun id k => if 342 ≤ id ∧ id < 366 ∧ k < 24 then -1 else if id = 176 ∧ k = 64 then 1 else M.1 id k, M.2)
theorem zFw_c {M : yb_S} {id : Nat} (h1 : id ≠ 176) (h2 : id < 342 ∨ 366 ≤ id) : (zFw M).1 id = M.1 id := funext fun k => by
  show (if 342 ≤ id ∧ id < 366 ∧ k < 24 then -1 else if id = 176 ∧ k = 64 then 1 else M.1 id k) = _
  rw [if_neg (by omega), if_neg (by omega)]
theorem zFw_k {M : yb_S} {k : Nat} (h : k ≠ 64) : (zFw M).1 176 k = M.1 176 k := by
  show (if 342 ≤ 176 ∧ 176 < 366 ∧ k < 24 then -1 else if 176 = 176 ∧ k = 64 then 1 else M.1 176 k) = _
  rw [if_neg (by omega), if_neg (by omega)]
theorem zFw_64 {M : yb_S} : (zFw M).1 176 64 = 1 := rfl
theorem zFw_2 {M : yb_S} : (zFw M).2 = M.2 := rfl
theorem zFw_w {M : yb_S} {f g : Nat} (hf : f < 24) (hg : g < 24) : (zFw M).1 (342 + f) g = -1 := if_pos ⟨by omega, by omega, hg⟩
theorem zFw_N {M : yb_S} : nF (zFw M) = nF M ∧ nH (zFw M) = nH M := by
  unfold nF nH
  rw [zFw_k (by decide), zFw_k (by decide)]
  exact ⟨rfl, rfl⟩
theorem zFw_W {M : yb_S} (hW : zW M) : zW (zFw M) := by
  obtain ⟨w1, w2, w3, w4, w5, w6, w7, w8, w9, w10, w11, w12, w13, w14⟩ := hW
  have bH : (M.1 176 15).toNatClampNeg ≤ 24 := w1.2.2.2.1
  have bF : (M.1 176 27).toNatClampNeg ≤ 24 := w1.2.2.2.2.2.1
  have bX : (M.1 176 44).toNatClampNeg ≤ 500 := w2.2.1
  have bS : (M.1 176 54).toNatClampNeg ≤ 10 := w2.2.2.2.1
  have bD : (M.1 176 7).toNatClampNeg ≤ 200 := w2.2.2.2.2.2.1
  refine ⟨?_, ?_, ?_, ?_, ?_, ?_, ?_, ?_, ?_, ?_, ?_, ?_, ?_, ?_⟩
  · have q := w1
    simp (disch := omega) only [zRt, zRc, zRh, zRf, zRa, zRr, zRk, zRl, zRn, zRx, zRp, zRb, zRg, zW1, zW2, zWt, zWh, zWf, zWn, zWu, zWa, zWr, zWx, zWs, zWb, zWp, zWg, nT, nH, nF, nR, nK, nX, nS, nD, nB, nG, zTown, zPup, zHeads, zRooms, zThere, zHall, zLodg, zLodger, zOf, zHit, zFinds, zKin, zDayH, zFw_c, zFw_k, zFw_2] at q ⊢
    exact q
  · have q := w2
    simp (disch := omega) only [zRt, zRc, zRh, zRf, zRa, zRr, zRk, zRl, zRn, zRx, zRp, zRb, zRg, zW1, zW2, zWt, zWh, zWf, zWn, zWu, zWa, zWr, zWx, zWs, zWb, zWp, zWg, nT, nH, nF, nR, nK, nX, nS, nD, nB, nG, zTown, zPup, zHeads, zRooms, zThere, zHall, zLodg, zLodger, zOf, zHit, zFinds, zKin, zDayH, zFw_c, zFw_k, zFw_2] at q ⊢
    exact q
  · have q := w3
    simp (disch := omega) only [zRt, zRc, zRh, zRf, zRa, zRr, zRk, zRl, zRn, zRx, zRp, zRb, zRg, zW1, zW2, zWt, zWh, zWf, zWn, zWu, zWa, zWr, zWx, zWs, zWb, zWp, zWg, nT, nH, nF, nR, nK, nX, nS, nD, nB, nG, zTown, zPup, zHeads, zRooms, zThere, zHall, zLodg, zLodger, zOf, zHit, zFinds, zKin, zDayH, zFw_c, zFw_k, zFw_2] at q ⊢
    exact q
  · have q := w4
    simp (disch := omega) only [zRt, zRc, zRh, zRf, zRa, zRr, zRk, zRl, zRn, zRx, zRp, zRb, zRg, zW1, zW2, zWt, zWh, zWf, zWn, zWu, zWa, zWr, zWx, zWs, zWb, zWp, zWg, nT, nH, nF, nR, nK, nX, nS, nD, nB, nG, zTown, zPup, zHeads, zRooms, zThere, zHall, zLodg, zLodger, zOf, zHit, zFinds, zKin, zDayH, zFw_c, zFw_k, zFw_2] at q ⊢
    exact q
  · have q := w5
    simp (disch := omega) only [zRt, zRc, zRh, zRf, zRa, zRr, zRk, zRl, zRn, zRx, zRp, zRb, zRg, zW1, zW2, zWt, zWh, zWf, zWn, zWu, zWa, zWr, zWx, zWs, zWb, zWp, zWg, nT, nH, nF, nR, nK, nX, nS, nD, nB, nG, zTown, zPup, zHeads, zRooms, zThere, zHall, zLodg, zLodger, zOf, zHit, zFinds, zKin, zDayH, zFw_c, zFw_k, zFw_2] at q ⊢
    exact q
  · have q := w6
    simp (disch := omega) only [zRt, zRc, zRh, zRf, zRa, zRr, zRk, zRl, zRn, zRx, zRp, zRb, zRg, zW1, zW2, zWt, zWh, zWf, zWn, zWu, zWa, zWr, zWx, zWs, zWb, zWp, zWg, nT, nH, nF, nR, nK, nX, nS, nD, nB, nG, zTown, zPup, zHeads, zRooms, zThere, zHall, zLodg, zLodger, zOf, zHit, zFinds, zKin, zDayH, zFw_c, zFw_k, zFw_2] at q ⊢
    exact q
  · have q := w7
    simp (disch := omega) only [zRt, zRc, zRh, zRf, zRa, zRr, zRk, zRl, zRn, zRx, zRp, zRb, zRg, zW1, zW2, zWt, zWh, zWf, zWn, zWu, zWa, zWr, zWx, zWs, zWb, zWp, zWg, nT, nH, nF, nR, nK, nX, nS, nD, nB, nG, zTown, zPup, zHeads, zRooms, zThere, zHall, zLodg, zLodger, zOf, zHit, zFinds, zKin, zDayH, zFw_c, zFw_k, zFw_2] at q ⊢
    exact q
  · have q := w8
    simp (disch := omega) only [zRt, zRc, zRh, zRf, zRa, zRr, zRk, zRl, zRn, zRx, zRp, zRb, zRg, zW1, zW2, zWt, zWh, zWf, zWn, zWu, zWa, zWr, zWx, zWs, zWb, zWp, zWg, nT, nH, nF, nR, nK, nX, nS, nD, nB, nG, zTown, zPup, zHeads, zRooms, zThere, zHall, zLodg, zLodger, zOf, zHit, zFinds, zKin, zDayH, zFw_c, zFw_k, zFw_2] at q ⊢
    exact q
  · have q := w9
    simp (disch := omega) only [zRt, zRc, zRh, zRf, zRa, zRr, zRk, zRl, zRn, zRx, zRp, zRb, zRg, zW1, zW2, zWt, zWh, zWf, zWn, zWu, zWa, zWr, zWx, zWs, zWb, zWp, zWg, nT, nH, nF, nR, nK, nX, nS, nD, nB, nG, zTown, zPup, zHeads, zRooms, zThere, zHall, zLodg, zLodger, zOf, zHit, zFinds, zKin, zDayH, zFw_c, zFw_k, zFw_2] at q ⊢
    exact q
  · have q := w10
    simp (disch := omega) only [zRt, zRc, zRh, zRf, zRa, zRr, zRk, zRl, zRn, zRx, zRp, zRb, zRg, zW1, zW2, zWt, zWh, zWf, zWn, zWu, zWa, zWr, zWx, zWs, zWb, zWp, zWg, nT, nH, nF, nR, nK, nX, nS, nD, nB, nG, zTown, zPup, zHeads, zRooms, zThere, zHall, zLodg, zLodger, zOf, zHit, zFinds, zKin, zDayH, zFw_c, zFw_k, zFw_2] at q ⊢
    exact q
  · have q := w11
    simp (disch := omega) only [zRt, zRc, zRh, zRf, zRa, zRr, zRk, zRl, zRn, zRx, zRp, zRb, zRg, zW1, zW2, zWt, zWh, zWf, zWn, zWu, zWa, zWr, zWx, zWs, zWb, zWp, zWg, nT, nH, nF, nR, nK, nX, nS, nD, nB, nG, zTown, zPup, zHeads, zRooms, zThere, zHall, zLodg, zLodger, zOf, zHit, zFinds, zKin, zDayH, zFw_c, zFw_k, zFw_2] at q ⊢
    exact q
  · have q := w12
    simp (disch := omega) only [zRt, zRc, zRh, zRf, zRa, zRr, zRk, zRl, zRn, zRx, zRp, zRb, zRg, zW1, zW2, zWt, zWh, zWf, zWn, zWu, zWa, zWr, zWx, zWs, zWb, zWp, zWg, nT, nH, nF, nR, nK, nX, nS, nD, nB, nG, zTown, zPup, zHeads, zRooms, zThere, zHall, zLodg, zLodger, zOf, zHit, zFinds, zKin, zDayH, zFw_c, zFw_k, zFw_2] at q ⊢
    exact q
  · exact Or.inr zFw_64
  · have q := w14
    simp (disch := omega) only [zRt, zRc, zRh, zRf, zRa, zRr, zRk, zRl, zRn, zRx, zRp, zRb, zRg, zW1, zW2, zWt, zWh, zWf, zWn, zWu, zWa, zWr, zWx, zWs, zWb, zWp, zWg, nT, nH, nF, nR, nK, nX, nS, nD, nB, nG, zTown, zPup, zHeads, zRooms, zThere, zHall, zLodg, zLodger, zOf, zHit, zFinds, zKin, zDayH, zFw_c, zFw_k, zFw_2] at q ⊢
    exact q
theorem zR_fw {M s u : yb_S} (hW : zW M) (hR : zR (zO s) M) (h2 : u.2 = s.2) (h5 : u.1 100 5 = zi (nF M)) (hfr : ∀ id k, id < 104 ∨ 128 ≤ id → id ≠ 100 ∨ k ≠ 5 → u.1 id k = s.1 id k) (hrow : ∀ id k, k < nF M → 104 ≤ id → id < 104 + nF M → u.1 id k = -1) : zR (zO u) (zFw M) := by
  have h8 := zw_F8 hW
  have d : ∀ {id k : Nat}, id < 104 ∨ 128 ≤ id → id ≠ 100 ∨ k ≠ 5 → (zO u).1 id k = (zO s).1 id k := fun {id k} g1 g2 => by
    show (if zeO id k then u.1 id k else 0) = (if zeO id k then s.1 id k else 0)
    rw [hfr id k g1 g2]
  have d2 : (zO u).2 = (zO s).2 := by
    show (fun id k => if id < 176 then u.2 id k else 0) = (fun id k => if id < 176 then s.2 id k else 0)
    rw [h2]
  obtain ⟨w1, w2, w3, w4, w5, w6, w7, w8, w9, w10, w11, w12, w13, w14⟩ := hW
  obtain ⟨r1, r2, r3, r4, r5, r6, r7, r8, r9, r10, r11, r12, r13⟩ := hR
  have bH : (M.1 176 15).toNatClampNeg ≤ 24 := w1.2.2.2.1
  have bF : (M.1 176 27).toNatClampNeg ≤ 24 := w1.2.2.2.2.2.1
  have bX : (M.1 176 44).toNatClampNeg ≤ 500 := w2.2.1
  have bS : (M.1 176 54).toNatClampNeg ≤ 10 := w2.2.2.2.1
  have bD : (M.1 176 7).toNatClampNeg ≤ 200 := w2.2.2.2.2.2.1
  refine ⟨?_, ?_, ?_, ?_, ?_, ?_, ?_, ?_, ?_, ?_, ?_, ?_, ?_⟩
  · have q := r1
    simp (disch := omega) only [zRt, zRc, zRh, zRf, zRa, zRr, zRk, zRl, zRn, zRx, zRp, zRb, zRg, zW1, zW2, zWt, zWh, zWf, zWn, zWu, zWa, zWr, zWx, zWs, zWb, zWp, zWg, nT, nH, nF, nR, nK, nX, nS, nD, nB, nG, zTown, zPup, zHeads, zRooms, zThere, zHall, zLodg, zLodger, zOf, zHit, zFinds, zKin, zDayH, zFw_c, zFw_k, zFw_2, d, d2] at q ⊢
    exact q
  · have q := r2
    simp (disch := omega) only [zRt, zRc, zRh, zRf, zRa, zRr, zRk, zRl, zRn, zRx, zRp, zRb, zRg, zW1, zW2, zWt, zWh, zWf, zWn, zWu, zWa, zWr, zWx, zWs, zWb, zWp, zWg, nT, nH, nF, nR, nK, nX, nS, nD, nB, nG, zTown, zPup, zHeads, zRooms, zThere, zHall, zLodg, zLodger, zOf, zHit, zFinds, zKin, zDayH, zFw_c, zFw_k, zFw_2, d, d2] at q ⊢
    exact q
  · have q := r3
    simp (disch := omega) only [zRt, zRc, zRh, zRf, zRa, zRr, zRk, zRl, zRn, zRx, zRp, zRb, zRg, zW1, zW2, zWt, zWh, zWf, zWn, zWu, zWa, zWr, zWx, zWs, zWb, zWp, zWg, nT, nH, nF, nR, nK, nX, nS, nD, nB, nG, zTown, zPup, zHeads, zRooms, zThere, zHall, zLodg, zLodger, zOf, zHit, zFinds, zKin, zDayH, zFw_c, zFw_k, zFw_2, d, d2] at q ⊢
    exact q
  · have q := r4
    simp (disch := omega) only [zRt, zRc, zRh, zRf, zRa, zRr, zRk, zRl, zRn, zRx, zRp, zRb, zRg, zW1, zW2, zWt, zWh, zWf, zWn, zWu, zWa, zWr, zWx, zWs, zWb, zWp, zWg, nT, nH, nF, nR, nK, nX, nS, nD, nB, nG, zTown, zPup, zHeads, zRooms, zThere, zHall, zLodg, zLodger, zOf, zHit, zFinds, zKin, zDayH, zFw_c, zFw_k, zFw_2, d, d2] at q ⊢
    exact q
  · have q := r5
    simp (disch := omega) only [zRt, zRc, zRh, zRf, zRa, zRr, zRk, zRl, zRn, zRx, zRp, zRb, zRg, zW1, zW2, zWt, zWh, zWf, zWn, zWu, zWa, zWr, zWx, zWs, zWb, zWp, zWg, nT, nH, nF, nR, nK, nX, nS, nD, nB, nG, zTown, zPup, zHeads, zRooms, zThere, zHall, zLodg, zLodger, zOf, zHit, zFinds, zKin, zDayH, zFw_c, zFw_k, zFw_2, d, d2] at q ⊢
    exact q
  · have q := r6
    simp (disch := omega) only [zRt, zRc, zRh, zRf, zRa, zRr, zRk, zRl, zRn, zRx, zRp, zRb, zRg, zW1, zW2, zWt, zWh, zWf, zWn, zWu, zWa, zWr, zWx, zWs, zWb, zWp, zWg, nT, nH, nF, nR, nK, nX, nS, nD, nB, nG, zTown, zPup, zHeads, zRooms, zThere, zHall, zLodg, zLodger, zOf, zHit, zFinds, zKin, zDayH, zFw_c, zFw_k, zFw_2, d, d2] at q ⊢
    exact q
  · have q := r7
    simp (disch := omega) only [zRt, zRc, zRh, zRf, zRa, zRr, zRk, zRl, zRn, zRx, zRp, zRb, zRg, zW1, zW2, zWt, zWh, zWf, zWn, zWu, zWa, zWr, zWx, zWs, zWb, zWp, zWg, nT, nH, nF, nR, nK, nX, nS, nD, nB, nG, zTown, zPup, zHeads, zRooms, zThere, zHall, zLodg, zLodger, zOf, zHit, zFinds, zKin, zDayH, zFw_c, zFw_k, zFw_2, d, d2] at q ⊢
    exact q
  · have q := r8
    simp (disch := omega) only [zRt, zRc, zRh, zRf, zRa, zRr, zRk, zRl, zRn, zRx, zRp, zRb, zRg, zW1, zW2, zWt, zWh, zWf, zWn, zWu, zWa, zWr, zWx, zWs, zWb, zWp, zWg, nT, nH, nF, nR, nK, nX, nS, nD, nB, nG, zTown, zPup, zHeads, zRooms, zThere, zHall, zLodg, zLodger, zOf, zHit, zFinds, zKin, zDayH, zFw_c, zFw_k, zFw_2, d, d2] at q ⊢
    exact q
  · have q := r9
    simp (disch := omega) only [zRt, zRc, zRh, zRf, zRa, zRr, zRk, zRl, zRn, zRx, zRp, zRb, zRg, zW1, zW2, zWt, zWh, zWf, zWn, zWu, zWa, zWr, zWx, zWs, zWb, zWp, zWg, nT, nH, nF, nR, nK, nX, nS, nD, nB, nG, zTown, zPup, zHeads, zRooms, zThere, zHall, zLodg, zLodger, zOf, zHit, zFinds, zKin, zDayH, zFw_c, zFw_k, zFw_2, d, d2] at q ⊢
    exact q
  · have q := r10
    simp (disch := omega) only [zRt, zRc, zRh, zRf, zRa, zRr, zRk, zRl, zRn, zRx, zRp, zRb, zRg, zW1, zW2, zWt, zWh, zWf, zWn, zWu, zWa, zWr, zWx, zWs, zWb, zWp, zWg, nT, nH, nF, nR, nK, nX, nS, nD, nB, nG, zTown, zPup, zHeads, zRooms, zThere, zHall, zLodg, zLodger, zOf, zHit, zFinds, zKin, zDayH, zFw_c, zFw_k, zFw_2, d, d2] at q ⊢
    exact q
  · refine ⟨nF M, by rw [zFw_N.1]; exact Nat.le_refl _, h5, fun e => ?_, fun f hf g hg => ⟨fun hf2 hg2 => ?_, fun _ _ => zFw_w (by omega) hg⟩⟩
    · rw [zFw_64] at e
      exact absurd e (by decide)
    · rw [zFw_w (by omega) hg, show (zO u).1 (104 + f % 24) g = u.1 (104 + f % 24) g from if_pos (zeO_t (by omega))]
      exact hrow _ _ hg2 (by omega) (by omega)
  · have q := r12
    simp (disch := omega) only [zRt, zRc, zRh, zRf, zRa, zRr, zRk, zRl, zRn, zRx, zRp, zRb, zRg, zW1, zW2, zWt, zWh, zWf, zWn, zWu, zWa, zWr, zWx, zWs, zWb, zWp, zWg, nT, nH, nF, nR, nK, nX, nS, nD, nB, nG, zTown, zPup, zHeads, zRooms, zThere, zHall, zLodg, zLodger, zOf, zHit, zFinds, zKin, zDayH, zFw_c, zFw_k, zFw_2, d, d2] at q ⊢
    exact q
  · have q := r13
    simp (disch := omega) only [zRt, zRc, zRh, zRf, zRa, zRr, zRk, zRl, zRn, zRx, zRp, zRb, zRg, zW1, zW2, zWt, zWh, zWf, zWn, zWu, zWa, zWr, zWx, zWs, zWb, zWp, zWg, nT, nH, nF, nR, nK, nX, nS, nD, nB, nG, zTown, zPup, zHeads, zRooms, zThere, zHall, zLodg, zLodger, zOf, zHit, zFinds, zKin, zDayH, zFw_c, zFw_k, zFw_2, d, d2] at q ⊢
    exact q
theorem zo_forget {M m s : yb_S} (hW : zW M) (hA : zA M m s) : zs_P (f_X6_forgetWhys s) (fun u => zA (zFw M) m u ∧ u.1 100 5 = zi (nF M)) := by
  have h8 := zw_F8 hW
  unfold f_X6_forgetWhys l_X6_forgetWhys_16
  rw [cq_F hA, zw_F hW, Option.bind_some]
  refine zs_up (fun f a => a.1 = zi f ∧ a.2.2 = s.2 ∧ a.2.1 100 5 = zi (nF M) ∧ (∀ id k, id < 104 ∨ 128 ≤ id → id ≠ 100 ∨ k ≠ 5 → a.2.1 id k = s.1 id k) ∧ ∀ id k, k < nF M → 104 ≤ id → id < 104 + f → a.2.1 id k = -1) (nF M) ?_ yb_N 0 _ (Nat.zero_le _) (by unfold yb_N; omega) (by
    refine ⟨rfl, rfl, zu_eq, fun id k g1 g2 => ?_, fun id k _ g1 g2 => absurd g1 (by omega)⟩
    dsimp only
    by_cases e : id = 100
    · subst e
      rw [zu_id, if_neg (by omega)]
    · rw [zu_ne e])
  rintro f ⟨x, u⟩ rc hf ⟨i1, i2, i3, i4, i5⟩ hn
  dsimp only at i1 i2 i3 i4 i5
  subst i1
  show zs_P (f_X6_forgetWhys_16 (fun x1 s => rc (x1, s)) (zi f) u) _
  unfold f_X6_forgetWhys_16
  rw [i3]
  rcases Nat.lt_or_ge f (nF M) with hlt | hge
  · rw [if_neg (by rw [zi_le (by omega) (by omega)]; omega)]
    unfold l_X6_forgetWhys_26
    refine zs_up (fun g a => a.1 = zi g ∧ a.2.2 = s.2 ∧ a.2.1 100 5 = zi (nF M) ∧ (∀ id k, id < 104 ∨ 128 ≤ id → id ≠ 100 ∨ k ≠ 5 → a.2.1 id k = s.1 id k) ∧ ∀ id k, k < nF M → 104 ≤ id → id < 104 + f ∨ id = 104 + f ∧ k < g → a.2.1 id k = -1) (nF M) ?_ yb_N 0 _ (Nat.zero_le _) (by unfold yb_N; omega) (by exact ⟨rfl, i2, i3, i4, fun id k hk g1 g2 => i5 id k hk g1 (by omega)⟩)
    rintro g ⟨x, w⟩ rd hg ⟨j1, j2, j3, j4, j5⟩ hm
    dsimp only at j1 j2 j3 j4 j5
    subst j1
    show zs_P (f_X6_forgetWhys_26 (fun x1 s => rc (x1, s)) (fun x2 s => rd (x2, s)) (zi f) (zi g) w) _
    unfold f_X6_forgetWhys_26
    rw [j3]
    rcases Nat.lt_or_ge g (nF M) with hglt | hgge
    · rw [if_neg (by rw [zi_le (by omega) (by omega)]; omega), zi_ri (by omega) (by omega), Option.bind_some, zi_wr (by omega) (by omega), Option.bind_some, zi_succ]
      refine hm hglt _ ⟨rfl, j2, ?_, fun id k g1 g2 => ?_, fun id k hk g1 g2 => ?_⟩
      · dsimp only
        rw [zu_ne (by omega)]
        exact j3
      · dsimp only
        rw [zu_ne (by omega)]
        exact j4 id k g1 g2
      · dsimp only
        by_cases e : id = 104 + 1 * f
        · subst e
          rw [zu_id]
          by_cases e2 : k = g
          · rw [if_pos e2]
          · rw [if_neg e2]
            exact j5 _ k hk g1 (by omega)
        · rw [zu_ne e]
          exact j5 id k hk g1 (by omega)
    · have hkl := Nat.le_antisymm hg hgge
      subst hkl
      rw [if_pos (Int32.le_refl _), zi_succ]
      exact hn hlt _ ⟨rfl, j2, j3, j4, fun id k hk g1 g2 => j5 id k hk g1 (by omega)⟩
  · have hkl := Nat.le_antisymm hf hge
    subst hkl
    rw [if_pos (Int32.le_refl _)]
    refine zs_ret ⟨⟨zR_fw hW hA.1 i2 i3 i4 i5, ?_⟩, i3⟩
    rw [← hA.2]
    apply Prod.ext
    · funext id k
      exact i4 (id + 176) k (by omega) (by omega)
    · funext id k
      show u.2 (id + 176) k = s.2 (id + 176) k
      rw [i2]
theorem zm_place {M o s : yb_S} (hW : zW M) (hQ : zQ M o s) : zs_P (f_X12_place s) (fun a => a.1 = zi (zPl true (zLine (zFw M) (nF (zFw M))).2 (zFw M) (zLine (zFw M) (nF (zFw M))).1).2 ∧ zQ (zPl true (zLine (zFw M) (nF (zFw M))).2 (zFw M) (zLine (zFw M) (nF (zFw M))).1).1 o a.2) := by
  unfold f_X12_place l_X12_place_2
  refine zs_up (fun f a => a.1 = zi f ∧ ∃ N, zQ N o a.2 ∧ N.2 = M.2 ∧ ∀ id k, N.1 id k = if 342 ≤ id ∧ id < 342 + f ∧ k < 24 then -1 else M.1 id k) 24 ?_ yb_N 0 _ (Nat.zero_le _) (by unfold yb_N; omega) (by exact ⟨rfl, M, hQ, rfl, fun id k => (if_neg (by omega)).symm⟩)
  rintro f ⟨x, u⟩ rc hf ⟨i1, N, i2, i3, i4⟩ hn
  dsimp only at i1 i2
  subst i1
  show zs_P (f_X12_place_2 (fun x1 s => rc (x1, s)) (zi f) u) _
  unfold f_X12_place_2
  rcases Nat.lt_or_ge f 24 with hlt | hge
  · rw [if_neg (by rw [show (24 : Int32) = zi 24 from rfl, zi_le (by omega) (by omega)]; omega)]
    unfold l_X12_place_10
    refine zs_up (fun g a => a.1 = zi g ∧ ∃ N, zQ N o a.2 ∧ N.2 = M.2 ∧ ∀ id k, N.1 id k = if 342 ≤ id ∧ (id < 342 + f ∧ k < 24 ∨ id = 342 + f ∧ k < g) then -1 else M.1 id k) 24 ?_ yb_N 0 _ (Nat.zero_le _) (by unfold yb_N; omega) (by
      refine ⟨rfl, N, i2, i3, fun id k => ?_⟩
      rw [i4]
      by_cases e : 342 ≤ id ∧ id < 342 + f ∧ k < 24
      · rw [if_pos e, if_pos (by omega)]
      · rw [if_neg e, if_neg (by omega)])
    rintro g ⟨x, w⟩ rd hg ⟨j1, L, j2, j3, j4⟩ hm
    dsimp only at j1 j2
    subst j1
    show zs_P (f_X12_place_10 (fun x1 s => rc (x1, s)) (fun x2 s => rd (x2, s)) (zi f) (zi g) w) _
    unfold f_X12_place_10
    rcases Nat.lt_or_ge g 24 with hglt | hgge
    · rw [if_neg (by rw [show (24 : Int32) = zi 24 from rfl, zi_le (by omega) (by omega)]; omega), zi_ri (by omega) (by omega), Option.bind_some, zi_wr (by omega) (by omega), Option.bind_some, zi_succ]
      refine hm hglt _ ⟨rfl, yb_pI L (342 + 1 * f) g (-1), zQ_e j2 (by omega), j3, fun id k => ?_⟩
      rw [zu_rd, j4]
      by_cases e : id = 342 + 1 * f
      · rw [if_pos e]
        by_cases e2 : k = g
        · rw [if_pos e2, if_pos (by omega)]
        · rw [if_neg e2]
          by_cases e3 : k < g
          · rw [if_pos (by omega), if_pos (by omega)]
          · rw [if_neg (by omega), if_neg (by omega)]
      · rw [if_neg e]
        by_cases e3 : 342 ≤ id ∧ id < 342 + f ∧ k < 24
        · rw [if_pos (by omega), if_pos (by omega)]
        · rw [if_neg (by omega), if_neg (by omega)]
    · have hkl := Nat.le_antisymm hg hgge
      subst hkl
      rw [if_pos (by decide), zi_succ]
      refine hn hlt _ ⟨rfl, L, j2, j3, fun id k => ?_⟩
      rw [j4]
      by_cases e3 : 342 ≤ id ∧ id < 342 + (f + 1) ∧ k < 24
      · rw [if_pos (by omega), if_pos e3]
      · rw [if_neg (by omega), if_neg e3]
  · have hkl := Nat.le_antisymm hf hge
    subst hkl
    rw [if_pos (by decide), Option.bind_some]
    have hN : yb_pI N 176 64 1 = zFw M := by
      apply Prod.ext
      · funext id k
        show _ = (if 342 ≤ id ∧ id < 366 ∧ k < 24 then -1 else if id = 176 ∧ k = 64 then 1 else M.1 id k)
        rw [zu_rd, i4]
        by_cases e : id = 176
        · rw [if_pos e]
          by_cases e2 : k = 64
          · rw [if_pos e2, if_neg (by omega), if_pos ⟨e, e2⟩]
          · rw [if_neg e2, if_neg (by omega), if_neg (by omega), if_neg (by omega)]
        · rw [if_neg e]
          by_cases e3 : 342 ≤ id ∧ id < 366 ∧ k < 24
          · rw [if_pos (by omega), if_pos e3]
          · rw [if_neg (by omega), if_neg e3, if_neg (by omega)]
      · exact i3
    have hQ2 : zQ (zFw M) o (yb_pI u 176 64 1) := by
      rw [← hN]
      exact zQ_ek i2 (by omega)
    refine zs_bind (zm_places (zFw_W hW) hQ2 true) fun a ha => ?_
    exact zs_ret ⟨ha.1, ha.2.1⟩
theorem ze_27 : ∀ (s : yb_S), zInv s → ∃ (r : Int32) (s1 s2 : yb_S), f_X11_place s = some (r, s1) ∧ f_X12_place s1 = some (r, s2) ∧ zInv s2 := by
  intro s h
  have hW := h.1
  have hW2 := zFw_W hW
  obtain ⟨hcN, hinj, hlt, -⟩ := zLine_ok (M := zFw (zP s)) (nF (zFw (zP s)))
  have h8 := zw_F8 hW2
  have p := zPl_ok (kept := true) hW2 hinj hlt _ (Nat.le_refl _)
  refine z_call h _ _ (fun m t hA => ?_) (fun o t hQ => zm_place hW hQ) p.1 ?_
  · unfold f_X11_place
    refine zs_bind (zo_forget hW hA) fun u hu => ?_
    refine zs_bind (zo_lineUp hW2 hu.1) fun v hv => ?_
    refine zs_bind (zo_placeAll (kept := true) hW2 hv.1 (by omega) hinj hlt (fun _ => ?_) hv.2.1 hv.2.2.1) fun a ha => zs_ret ⟨ha.1, ha.2.1⟩
    rw [hv.2.2.2, hu.2, zFw_N.1]
  · rw [p.2.1 176 (by decide) (by decide) (by decide), zFw_k (by decide)]
    exact z_b58 h
