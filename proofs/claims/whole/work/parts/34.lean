/-! a home comes -/
theorem zsum_add {g h : Nat → Int32} : ∀ {n : Nat}, zsum g n + zsum h n = zsum (fun k => g k + h k) n
  | 0 => rfl
  | n + 1 => by
    rw [zsum_succ, zsum_succ, zsum_succ, ← zsum_add (n := n)]
    generalize zsum g n = a
    generalize zsum h n = b
    generalize g n = c
    generalize h n = d
    grind
theorem zfind_congr {p q : Nat → Bool} : ∀ {n : Nat}, (∀ k, k < n → p k = q k) → zfind p n = zfind q n
  | 0, _ => rfl
  | n + 1, h => by
    show (match zfind p n with | some k => some k | none => if p n then some n else none) = (match zfind q n with | some k => some k | none => if q n then some n else none)
    rw [zfind_congr (n := n) (fun k hk => h k (by omega)), h n (by omega)]
theorem zRc_home {o o' M M' : yb_S} {n t x : Nat} (hW : zW M) (hR : zRc o M) (hn : n = nH M) (h8 : n < 24) (ht : t < nT M) (m183 : ∀ k, M'.1 183 k = if k = n then zi t else M.1 183 k) (m184 : ∀ k, M'.1 184 k = if k = n then zi x else M.1 184 k) (m15 : nH M' = n + 1) (m27 : nF M' = nF M) (ms : ∀ id k, 189 ≤ id → id < 200 → M'.1 id k = M.1 id k) (o8 : ∀ k, o'.1 8 k = if k = t then o.1 8 k + zi x else o.1 8 k) (o20 : ∀ k, o'.1 20 k = if k = n then -1 else o.1 20 k) (oo : ∀ id k, id = 9 ∨ id = 10 ∨ id = 11 ∨ id = 30 → o'.1 id k = o.1 id k) : zRc o' M' := by
  have hT8 := zw_T8 hW
  have eT : ∀ f, f < nF M → zTown M' f = zTown M f := fun f hf => by
    rcases zTown_in hW hf with ⟨e1, e2, -⟩ | ⟨u, hu, e1, e2, h, hh, e3, e4⟩
    · rw [e1, zTown_0 (by rw [ms 195 f (by omega) (by omega)]; exact e2)]
    · rw [e1, zTown_1 ((ms 195 f (by omega) (by omega)).trans e2) ((ms 196 f (by omega) (by omega)).trans e3) (by omega), m183, if_neg (by omega), e4]
  obtain ⟨r1, r2, r3⟩ := hR
  refine ⟨fun T hT => ?_, fun h hh => ?_, fun f hf => ?_⟩
  · obtain ⟨q1, q2, q3, q4⟩ := r1 T hT
    refine ⟨?_, ?_, ?_, ?_⟩
    · have e : zRooms M' (zi T) = zRooms M (zi T) + cond (zi t == zi T) (zi x) 0 := by
        unfold zRooms
        rw [m15, zsum_succ, zsum_congr (g' := fun h => cond (M.1 183 h == zi T) (M.1 184 h) 0) (fun k hk => by rw [m183, m184, if_neg (by omega), if_neg (by omega)]), ← hn, m183, m184, if_pos rfl, if_pos rfl]
      rw [e, o8, ← q1]
      by_cases e2 : T = t
      · rw [if_pos e2, e2]
        simp
      · rw [if_neg e2, show (zi t == zi T) = false from beq_eq_false_iff_ne.mpr (by rw [ne_eq, zi_inj (by omega) (by omega)]; omega)]
        simp
    · rw [oo 9 T (by omega), q2]
      unfold zHeads
      rw [m27]
      exact (zsum_congr fun k hk => by rw [eT k hk, ms 189 k (by omega) (by omega)]).symm
    · rw [oo 10 T (by omega), q3]
      unfold zPup
      rw [m27]
      exact (zsum_congr fun k hk => by rw [eT k hk, ms 190 k (by omega) (by omega)]).symm
    · rw [oo 11 T (by omega), q4]
      unfold zLodg
      rw [m27]
      exact (zbits_congr fun k hk => by rw [eT k hk]).symm
  · rw [m15] at hh
    have e : zLodger M' h = zix (zfind (fun f => M.1 195 f == 1 && M.1 196 f == zi h) (nF M)) := by
      unfold zLodger
      rw [m27]
      congr 1
      exact zfind_congr fun k hk => by rw [ms 195 k (by omega) (by omega), ms 196 k (by omega) (by omega)]
    rw [e, o20]
    by_cases e2 : h = n
    · rw [if_pos e2, zfind_n]
      · rfl
      · intro f hf
        rcases (zw_f hW hf).2.2.2.1 with ⟨q1, g, hg, q2⟩ | ⟨q1, q2⟩
        · rw [q2, show (zi g == zi h) = false from beq_eq_false_iff_ne.mpr (by rw [ne_eq, zi_inj (by omega) (by omega)]; omega)]
          simp
        · rw [show (M.1 195 f == 1) = false from beq_eq_false_iff_ne.mpr q1]
          rfl
    · rw [if_neg e2]
      exact r2 h (by omega)
  · rw [m27] at hf
    rw [oo 30 f (by omega), eT f hf]
    exact r3 f hf
theorem zk_home {o M : yb_S} {n t x q : Nat} {y u v : Int32} (hn : n = nH M) (h8 : n < 24) (ht : t < nT M) (hq : q < 5) (hW : zW M) (hR : zR o M) : zW (yb_pI (yb_pI (yb_pI (yb_pI (yb_pI (yb_pI (yb_pI M 183 n (zi t)) 184 n (zi x)) 185 n y) 186 n (zi q)) 187 n u) 188 n v) 176 15 (zi (n + 1))) ∧ zR (yb_pI (yb_pI (yb_pI (yb_pI (yb_pI (yb_pI (yb_pI (yb_pI (yb_pI o 14 n (zi t)) 15 n (zi x)) 16 n y) 17 n (zi q)) 18 n u) 19 n v) 20 n (-1)) 13 0 (zi (n + 1))) 8 t (o.1 8 t + zi x)) (yb_pI (yb_pI (yb_pI (yb_pI (yb_pI (yb_pI (yb_pI M 183 n (zi t)) 184 n (zi x)) 185 n y) 186 n (zi q)) 187 n u) 188 n v) 176 15 (zi (n + 1))) := by
  obtain ⟨w1, w2, w3, w4, w5, w6, w7, w8, w9, w10, w11, w12, w13, w14⟩ := hW
  obtain ⟨r1, r2, r3, r4, r5, r6, r7, r8, r9, r10, r11, r12, r13⟩ := hR
  have bH : (M.1 176 15).toNatClampNeg ≤ 24 := w1.2.2.2.1
  have bF : (M.1 176 27).toNatClampNeg ≤ 24 := w1.2.2.2.2.2.1
  have bX : (M.1 176 44).toNatClampNeg ≤ 500 := w2.2.1
  have bS : (M.1 176 54).toNatClampNeg ≤ 10 := w2.2.2.2.1
  have bD : (M.1 176 7).toNatClampNeg ≤ 200 := w2.2.2.2.2.2.1
  have hWW : zW M := ⟨w1, w2, w3, w4, w5, w6, w7, w8, w9, w10, w11, w12, w13, w14⟩
  refine ⟨⟨?_, ?_, ?_, ?_, ?_, ?_, ?_, ?_, ?_, ?_, ?_, ?_, ?_, ?_⟩, ?_, ?_, ?_, ?_, ?_, ?_, ?_, ?_, ?_, ?_, ?_, ?_, ?_⟩
  · (have hh := w1; simp (disch := omega) only [zRt, zRc, zRh, zRf, zRa, zRr, zRk, zRl, zRn, zRx, zRp, zRb, zRg, zW1, zW2, zWt, zWh, zWf, zWn, zWu, zWa, zWr, zWx, zWs, zWb, zWp, zWg, nT, nH, nF, nR, nK, nX, nS, nD, nB, nG, zTown, zPup, zHeads, zRooms, zThere, zHall, zLodg, zLodger, zOf, zHit, zFinds, zKin, zDayH, zi_tn, zu_ne, zu_nef, zu_eq, zu_id, zu_rl, zu_rdL, zu_neL, zu_idL, ↓reduceIte, Nat.reduceEqDiff] at hh hn ⊢; grind)
  · simpa (disch := omega) only [zRt, zRc, zRh, zRf, zRa, zRr, zRk, zRl, zRn, zRx, zRp, zRb, zRg, zW1, zW2, zWt, zWh, zWf, zWn, zWu, zWa, zWr, zWx, zWs, zWb, zWp, zWg, nT, nH, nF, nR, nK, nX, nS, nD, nB, nG, zTown, zPup, zHeads, zRooms, zThere, zHall, zLodg, zLodger, zOf, zHit, zFinds, zKin, zDayH, zu_ne, zu_nef, zu_eq, zu_id, zu_rl, zu_rdL, zu_neL, zu_idL, ↓reduceIte, Nat.reduceEqDiff] using w2
  · simpa (disch := omega) only [zRt, zRc, zRh, zRf, zRa, zRr, zRk, zRl, zRn, zRx, zRp, zRb, zRg, zW1, zW2, zWt, zWh, zWf, zWn, zWu, zWa, zWr, zWx, zWs, zWb, zWp, zWg, nT, nH, nF, nR, nK, nX, nS, nD, nB, nG, zTown, zPup, zHeads, zRooms, zThere, zHall, zLodg, zLodger, zOf, zHit, zFinds, zKin, zDayH, zu_ne, zu_nef, zu_eq, zu_id, zu_rl, zu_rdL, zu_neL, zu_idL, ↓reduceIte, Nat.reduceEqDiff] using w3
  · intro k hk
    have hh := w4 k
    by_cases e : k = n <;> simp (disch := omega) only [nT, nH, e, zi_tn, zu_ne, zu_nef, zu_eq, zu_id, ↓reduceIte, Nat.reduceEqDiff] at hh hk hn ht ⊢
    · exact ⟨⟨t, ht, rfl⟩, ⟨q, hq, rfl⟩⟩
    · exact hh (by omega)
  · intro f hf
    have hh := w5 f hf
    simp (disch := omega) only [nT, nH, nD, zi_tn, zu_ne, zu_nef, zu_eq, zu_id, ↓reduceIte, Nat.reduceEqDiff] at hh hn ⊢
    refine ⟨hh.1, hh.2.1, hh.2.2.1, ?_, hh.2.2.2.2⟩
    rcases hh.2.2.2.1 with ⟨e1, g, hg, e2⟩ | e
    · exact Or.inl ⟨e1, g, by omega, e2⟩
    · exact Or.inr e
  · simpa (disch := omega) only [zRt, zRc, zRh, zRf, zRa, zRr, zRk, zRl, zRn, zRx, zRp, zRb, zRg, zW1, zW2, zWt, zWh, zWf, zWn, zWu, zWa, zWr, zWx, zWs, zWb, zWp, zWg, nT, nH, nF, nR, nK, nX, nS, nD, nB, nG, zTown, zPup, zHeads, zRooms, zThere, zHall, zLodg, zLodger, zOf, zHit, zFinds, zKin, zDayH, zu_ne, zu_nef, zu_eq, zu_id, zu_rl, zu_rdL, zu_neL, zu_idL, ↓reduceIte, Nat.reduceEqDiff] using w6
  · simpa (disch := omega) only [zRt, zRc, zRh, zRf, zRa, zRr, zRk, zRl, zRn, zRx, zRp, zRb, zRg, zW1, zW2, zWt, zWh, zWf, zWn, zWu, zWa, zWr, zWx, zWs, zWb, zWp, zWg, nT, nH, nF, nR, nK, nX, nS, nD, nB, nG, zTown, zPup, zHeads, zRooms, zThere, zHall, zLodg, zLodger, zOf, zHit, zFinds, zKin, zDayH, zu_ne, zu_nef, zu_eq, zu_id, zu_rl, zu_rdL, zu_neL, zu_idL, ↓reduceIte, Nat.reduceEqDiff] using w7
  · simpa (disch := omega) only [zRt, zRc, zRh, zRf, zRa, zRr, zRk, zRl, zRn, zRx, zRp, zRb, zRg, zW1, zW2, zWt, zWh, zWf, zWn, zWu, zWa, zWr, zWx, zWs, zWb, zWp, zWg, nT, nH, nF, nR, nK, nX, nS, nD, nB, nG, zTown, zPup, zHeads, zRooms, zThere, zHall, zLodg, zLodger, zOf, zHit, zFinds, zKin, zDayH, zu_ne, zu_nef, zu_eq, zu_id, zu_rl, zu_rdL, zu_neL, zu_idL, ↓reduceIte, Nat.reduceEqDiff] using w8
  · simpa (disch := omega) only [zRt, zRc, zRh, zRf, zRa, zRr, zRk, zRl, zRn, zRx, zRp, zRb, zRg, zW1, zW2, zWt, zWh, zWf, zWn, zWu, zWa, zWr, zWx, zWs, zWb, zWp, zWg, nT, nH, nF, nR, nK, nX, nS, nD, nB, nG, zTown, zPup, zHeads, zRooms, zThere, zHall, zLodg, zLodger, zOf, zHit, zFinds, zKin, zDayH, zu_ne, zu_nef, zu_eq, zu_id, zu_rl, zu_rdL, zu_neL, zu_idL, ↓reduceIte, Nat.reduceEqDiff] using w9
  · simpa (disch := omega) only [zRt, zRc, zRh, zRf, zRa, zRr, zRk, zRl, zRn, zRx, zRp, zRb, zRg, zW1, zW2, zWt, zWh, zWf, zWn, zWu, zWa, zWr, zWx, zWs, zWb, zWp, zWg, nT, nH, nF, nR, nK, nX, nS, nD, nB, nG, zTown, zPup, zHeads, zRooms, zThere, zHall, zLodg, zLodger, zOf, zHit, zFinds, zKin, zDayH, zu_ne, zu_nef, zu_eq, zu_id, zu_rl, zu_rdL, zu_neL, zu_idL, ↓reduceIte, Nat.reduceEqDiff] using w10
  · simpa (disch := omega) only [zRt, zRc, zRh, zRf, zRa, zRr, zRk, zRl, zRn, zRx, zRp, zRb, zRg, zW1, zW2, zWt, zWh, zWf, zWn, zWu, zWa, zWr, zWx, zWs, zWb, zWp, zWg, nT, nH, nF, nR, nK, nX, nS, nD, nB, nG, zTown, zPup, zHeads, zRooms, zThere, zHall, zLodg, zLodger, zOf, zHit, zFinds, zKin, zDayH, zu_ne, zu_nef, zu_eq, zu_id, zu_rl, zu_rdL, zu_neL, zu_idL, ↓reduceIte, Nat.reduceEqDiff] using w11
  · simpa (disch := omega) only [zRt, zRc, zRh, zRf, zRa, zRr, zRk, zRl, zRn, zRx, zRp, zRb, zRg, zW1, zW2, zWt, zWh, zWf, zWn, zWu, zWa, zWr, zWx, zWs, zWb, zWp, zWg, nT, nH, nF, nR, nK, nX, nS, nD, nB, nG, zTown, zPup, zHeads, zRooms, zThere, zHall, zLodg, zLodger, zOf, zHit, zFinds, zKin, zDayH, zu_ne, zu_nef, zu_eq, zu_id, zu_rl, zu_rdL, zu_neL, zu_idL, ↓reduceIte, Nat.reduceEqDiff] using w12
  · simpa (disch := omega) only [zRt, zRc, zRh, zRf, zRa, zRr, zRk, zRl, zRn, zRx, zRp, zRb, zRg, zW1, zW2, zWt, zWh, zWf, zWn, zWu, zWa, zWr, zWx, zWs, zWb, zWp, zWg, nT, nH, nF, nR, nK, nX, nS, nD, nB, nG, zTown, zPup, zHeads, zRooms, zThere, zHall, zLodg, zLodger, zOf, zHit, zFinds, zKin, zDayH, zu_ne, zu_nef, zu_eq, zu_id, zu_rl, zu_rdL, zu_neL, zu_idL, ↓reduceIte, Nat.reduceEqDiff] using w13
  · simpa (disch := omega) only [zRt, zRc, zRh, zRf, zRa, zRr, zRk, zRl, zRn, zRx, zRp, zRb, zRg, zW1, zW2, zWt, zWh, zWf, zWn, zWu, zWa, zWr, zWx, zWs, zWb, zWp, zWg, nT, nH, nF, nR, nK, nX, nS, nD, nB, nG, zTown, zPup, zHeads, zRooms, zThere, zHall, zLodg, zLodger, zOf, zHit, zFinds, zKin, zDayH, zu_ne, zu_nef, zu_eq, zu_id, zu_rl, zu_rdL, zu_neL, zu_idL, ↓reduceIte, Nat.reduceEqDiff] using w14
  · simpa (disch := omega) only [zRt, zRc, zRh, zRf, zRa, zRr, zRk, zRl, zRn, zRx, zRp, zRb, zRg, zW1, zW2, zWt, zWh, zWf, zWn, zWu, zWa, zWr, zWx, zWs, zWb, zWp, zWg, nT, nH, nF, nR, nK, nX, nS, nD, nB, nG, zTown, zPup, zHeads, zRooms, zThere, zHall, zLodg, zLodger, zOf, zHit, zFinds, zKin, zDayH, zu_ne, zu_nef, zu_eq, zu_id, zu_rl, zu_rdL, zu_neL, zu_idL, ↓reduceIte, Nat.reduceEqDiff] using r1
  · refine zRc_home (o := o) (M := M) (n := n) (t := t) (x := x) hWW r2 hn h8 ht (fun k => ?_) (fun k => ?_) ?_ ?_ (fun id k q1 q2 => ?_) (fun k => ?_) (fun k => ?_) (fun id k q1 => ?_)
    · simp (disch := omega) only [zu_ne, zu_id]
    · simp (disch := omega) only [zu_ne, zu_id]
    · unfold nH
      simp (disch := omega) only [zu_eq, zi_tn]
    · unfold nF
      simp (disch := omega) only [zu_ne, zu_id, ↓reduceIte, Nat.reduceEqDiff]
    · simp (disch := omega) only [zu_ne]
    · simp (disch := omega) only [zu_ne, zu_id]
      by_cases e : k = t
      · rw [if_pos e, if_pos e, e]
      · rw [if_neg e, if_neg e]
    · simp (disch := omega) only [zu_ne, zu_id]
    · simp (disch := omega) only [zu_ne]
  · refine ⟨by simp (disch := omega) only [zu_ne, zu_eq, zu_id, ↓reduceIte, Nat.reduceEqDiff], fun k hk => ?_⟩
    have hh := r3.2 k
    by_cases e : k = n <;> simp (disch := omega) only [nH, e, zi_tn, zu_ne, zu_nef, zu_eq, zu_id, ↓reduceIte, Nat.reduceEqDiff] at hh hk hn ⊢
    · exact ⟨trivial, trivial, trivial, trivial, trivial, trivial⟩
    · exact hh (by omega)
  · simpa (disch := omega) only [zRt, zRc, zRh, zRf, zRa, zRr, zRk, zRl, zRn, zRx, zRp, zRb, zRg, zW1, zW2, zWt, zWh, zWf, zWn, zWu, zWa, zWr, zWx, zWs, zWb, zWp, zWg, nT, nH, nF, nR, nK, nX, nS, nD, nB, nG, zTown, zPup, zHeads, zRooms, zThere, zHall, zLodg, zLodger, zOf, zHit, zFinds, zKin, zDayH, zu_ne, zu_nef, zu_eq, zu_id, zu_rl, zu_rdL, zu_neL, zu_idL, ↓reduceIte, Nat.reduceEqDiff] using r4
  · simpa (disch := omega) only [zRt, zRc, zRh, zRf, zRa, zRr, zRk, zRl, zRn, zRx, zRp, zRb, zRg, zW1, zW2, zWt, zWh, zWf, zWn, zWu, zWa, zWr, zWx, zWs, zWb, zWp, zWg, nT, nH, nF, nR, nK, nX, nS, nD, nB, nG, zTown, zPup, zHeads, zRooms, zThere, zHall, zLodg, zLodger, zOf, zHit, zFinds, zKin, zDayH, zu_ne, zu_nef, zu_eq, zu_id, zu_rl, zu_rdL, zu_neL, zu_idL, ↓reduceIte, Nat.reduceEqDiff] using r5
  · simpa (disch := omega) only [zRt, zRc, zRh, zRf, zRa, zRr, zRk, zRl, zRn, zRx, zRp, zRb, zRg, zW1, zW2, zWt, zWh, zWf, zWn, zWu, zWa, zWr, zWx, zWs, zWb, zWp, zWg, nT, nH, nF, nR, nK, nX, nS, nD, nB, nG, zTown, zPup, zHeads, zRooms, zThere, zHall, zLodg, zLodger, zOf, zHit, zFinds, zKin, zDayH, zu_ne, zu_nef, zu_eq, zu_id, zu_rl, zu_rdL, zu_neL, zu_idL, ↓reduceIte, Nat.reduceEqDiff] using r6
  · simpa (disch := omega) only [zRt, zRc, zRh, zRf, zRa, zRr, zRk, zRl, zRn, zRx, zRp, zRb, zRg, zW1, zW2, zWt, zWh, zWf, zWn, zWu, zWa, zWr, zWx, zWs, zWb, zWp, zWg, nT, nH, nF, nR, nK, nX, nS, nD, nB, nG, zTown, zPup, zHeads, zRooms, zThere, zHall, zLodg, zLodger, zOf, zHit, zFinds, zKin, zDayH, zu_ne, zu_nef, zu_eq, zu_id, zu_rl, zu_rdL, zu_neL, zu_idL, ↓reduceIte, Nat.reduceEqDiff] using r7
  · simpa (disch := omega) only [zRt, zRc, zRh, zRf, zRa, zRr, zRk, zRl, zRn, zRx, zRp, zRb, zRg, zW1, zW2, zWt, zWh, zWf, zWn, zWu, zWa, zWr, zWx, zWs, zWb, zWp, zWg, nT, nH, nF, nR, nK, nX, nS, nD, nB, nG, zTown, zPup, zHeads, zRooms, zThere, zHall, zLodg, zLodger, zOf, zHit, zFinds, zKin, zDayH, zu_ne, zu_nef, zu_eq, zu_id, zu_rl, zu_rdL, zu_neL, zu_idL, ↓reduceIte, Nat.reduceEqDiff] using r8
  · simpa (disch := omega) only [zRt, zRc, zRh, zRf, zRa, zRr, zRk, zRl, zRn, zRx, zRp, zRb, zRg, zW1, zW2, zWt, zWh, zWf, zWn, zWu, zWa, zWr, zWx, zWs, zWb, zWp, zWg, nT, nH, nF, nR, nK, nX, nS, nD, nB, nG, zTown, zPup, zHeads, zRooms, zThere, zHall, zLodg, zLodger, zOf, zHit, zFinds, zKin, zDayH, zu_ne, zu_nef, zu_eq, zu_id, zu_rl, zu_rdL, zu_neL, zu_idL, ↓reduceIte, Nat.reduceEqDiff] using r9
  · simpa (disch := omega) only [zRt, zRc, zRh, zRf, zRa, zRr, zRk, zRl, zRn, zRx, zRp, zRb, zRg, zW1, zW2, zWt, zWh, zWf, zWn, zWu, zWa, zWr, zWx, zWs, zWb, zWp, zWg, nT, nH, nF, nR, nK, nX, nS, nD, nB, nG, zTown, zPup, zHeads, zRooms, zThere, zHall, zLodg, zLodger, zOf, zHit, zFinds, zKin, zDayH, zu_ne, zu_nef, zu_eq, zu_id, zu_rl, zu_rdL, zu_neL, zu_idL, ↓reduceIte, Nat.reduceEqDiff] using r10
  · simpa (disch := omega) only [zRt, zRc, zRh, zRf, zRa, zRr, zRk, zRl, zRn, zRx, zRp, zRb, zRg, zW1, zW2, zWt, zWh, zWf, zWn, zWu, zWa, zWr, zWx, zWs, zWb, zWp, zWg, nT, nH, nF, nR, nK, nX, nS, nD, nB, nG, zTown, zPup, zHeads, zRooms, zThere, zHall, zLodg, zLodger, zOf, zHit, zFinds, zKin, zDayH, zu_ne, zu_nef, zu_eq, zu_id, zu_rl, zu_rdL, zu_neL, zu_idL, ↓reduceIte, Nat.reduceEqDiff] using r11
  · simpa (disch := omega) only [zRt, zRc, zRh, zRf, zRa, zRr, zRk, zRl, zRn, zRx, zRp, zRb, zRg, zW1, zW2, zWt, zWh, zWf, zWn, zWu, zWa, zWr, zWx, zWs, zWb, zWp, zWg, nT, nH, nF, nR, nK, nX, nS, nD, nB, nG, zTown, zPup, zHeads, zRooms, zThere, zHall, zLodg, zLodger, zOf, zHit, zFinds, zKin, zDayH, zu_ne, zu_nef, zu_eq, zu_id, zu_rl, zu_rdL, zu_neL, zu_idL, ↓reduceIte, Nat.reduceEqDiff] using r12
  · simpa (disch := omega) only [zRt, zRc, zRh, zRf, zRa, zRr, zRk, zRl, zRn, zRx, zRp, zRb, zRg, zW1, zW2, zWt, zWh, zWf, zWn, zWu, zWa, zWr, zWx, zWs, zWb, zWp, zWg, nT, nH, nF, nR, nK, nX, nS, nD, nB, nG, zTown, zPup, zHeads, zRooms, zThere, zHall, zLodg, zLodger, zOf, zHit, zFinds, zKin, zDayH, zu_ne, zu_nef, zu_eq, zu_id, zu_rl, zu_rdL, zu_neL, zu_idL, ↓reduceIte, Nat.reduceEqDiff] using r13
theorem zo_canHome {w : Nat} {s : yb_S} (hw : w < 2147483648) : f_X11_canBeHome (zi w) s = some (if 100 ≤ w ∧ w ≤ 999 ∧ w / 10 % 10 ≤ 1 ∧ w % 10 ≤ 4 then 1 else 0) := by
  unfold f_X11_canBeHome
  simp (disch := omega) only [↓zmd, zl, zi_div, zi_rem, zi_lt, zi_le, zi_inj, zi_add, zi_sub, zi_addm, zi_eqm, zi_meq, zi_mlt, zi_ltm, zi_lem, zi_mle, zi_tn, zi_rd, zi_wr, zi_rl, zi_wl, zi_ri, zu_ne, zu_nef, zu_eq, zu_id, zu_rl, zu_rdL, zu_neL, zu_idL, Option.bind_some, ↓reduceIte, Nat.reduceEqDiff, if_pos, if_neg]
  (repeat' split) <;> first | rfl | (exfalso; omega)
theorem zo_canDays {w : Nat} {s : yb_S} (hw : w < 2147483648) : f_X11_canBeDays (zi w) s = some (if w % 1000 ≤ 200 ∧ w / 1000 ≤ w % 1000 then 1 else 0) := by
  unfold f_X11_canBeDays
  simp (disch := omega) only [↓zmd, zl, zi_div, zi_rem, zi_lt, zi_le, zi_inj, zi_add, zi_sub, zi_addm, zi_eqm, zi_meq, zi_mlt, zi_ltm, zi_lem, zi_mle, zi_tn, zi_rd, zi_wr, zi_rl, zi_wl, zi_ri, zu_ne, zu_nef, zu_eq, zu_id, zu_rl, zu_rdL, zu_neL, zu_idL, Option.bind_some, ↓reduceIte, Nat.reduceEqDiff, if_pos, if_neg]
  (repeat' split) <;> first | rfl | (exfalso; omega)
theorem zm_areDays {w : Nat} {s : yb_S} (hw : w < 2147483648) : f_X12_areDays (zi w) s = some (if w % 1000 ≤ 200 ∧ w / 1000 ≤ w % 1000 then 1 else 0) := by
  unfold f_X12_areDays
  simp (disch := omega) only [↓zmd, zl, zi_div, zi_rem, zi_lt, zi_le, zi_inj, zi_add, zi_sub, zi_addm, zi_eqm, zi_meq, zi_mlt, zi_ltm, zi_lem, zi_mle, zi_tn, zi_rd, zi_wr, zi_rl, zi_wl, zi_ri, zu_ne, zu_nef, zu_eq, zu_id, zu_rl, zu_rdL, zu_neL, zu_idL, Option.bind_some, ↓reduceIte, Nat.reduceEqDiff, if_pos, if_neg]
  (repeat' split) <;> first | rfl | (exfalso; omega)
theorem zo_addHome {M m s : yb_S} (hW : zW M) (hA : zA M m s) {t w v : Nat} (ht : t < 2147483648) (hw : w < 2147483648) (hv : v < 2147483648) (h24 : nH M < 24) : f_X4_add (zi t) (zi w) (zi v) s = some (zi (nH M), yb_pI (yb_pI (yb_pI (yb_pI (yb_pI (yb_pI (yb_pI (yb_pI s 14 (nH M) (zi t)) 15 (nH M) (zi (w / 100))) 16 (nH M) (zi (w / 10 % 10))) 17 (nH M) (zi (w % 10))) 18 (nH M) (zi (v / 1000))) 19 (nH M) (zi (v % 1000))) 20 (nH M) (-1)) 13 0 (zi (nH M + 1))) := by
  unfold f_X4_add
  simp (disch := omega) only [cq_H hA, zw_H hW, ↓zmd, zl, zi_div, zi_rem, zi_lt, zi_le, zi_inj, zi_add, zi_sub, zi_addm, zi_eqm, zi_meq, zi_mlt, zi_ltm, zi_lem, zi_mle, zi_tn, zi_rd, zi_wr, zi_rl, zi_wl, zi_ri, zu_ne, zu_nef, zu_eq, zu_id, zu_rl, zu_rdL, zu_neL, zu_idL, Option.bind_some, ↓reduceIte, Nat.reduceEqDiff, if_pos, if_neg]
  rfl
theorem ze_2 : ∀ (a1 a2 a3 : Int32) (s : yb_S), zInv s → ∃ (r : Int32) (s1 s2 : yb_S), f_X11_home a1 a2 a3 s = some (r, s1) ∧ f_X12_home a1 a2 a3 s1 = some (r, s2) ∧ zInv s2 := by
  intro a1 a2 a3 s h
  have hW := h.1
  have h9 := zw_T8 hW
  have h10 := zw_H8 hW
  by_cases hc : ∃ t w v, t < nT (zP s) ∧ w < 2147483648 ∧ v < 2147483648 ∧ a1 = zi t ∧ a2 = zi w ∧ a3 = zi v ∧ (100 ≤ w ∧ w ≤ 999 ∧ w / 10 % 10 ≤ 1 ∧ w % 10 ≤ 4) ∧ (v % 1000 ≤ 200 ∧ v / 1000 ≤ v % 1000) ∧ nH (zP s) < 24
  · obtain ⟨t, w, v, ht, hw, hv, rfl, rfl, rfl, hw2, hv2, h24⟩ := hc
    have hk := fun (o : yb_S) hR => zk_home (o := o) (M := zP s) (n := nH (zP s)) (t := t) (x := w / 100) (q := w % 10) (y := zi (w / 10 % 10)) (u := zi (v / 1000)) (v := zi (v % 1000)) rfl h24 ht (by omega) hW hR
    refine z_call h (zi (nH (zP s))) _ (fun m u hA => ?_) (fun o u hQ => ?_) (hk _ h.2.1).1 ?_
    · unfold f_X11_home
      rw [zo_hTt hW hA ht, Option.bind_some, if_neg (by decide), zo_canHome hw, if_pos hw2, Option.bind_some, if_neg (by decide), zo_canDays hv, if_pos hv2, Option.bind_some, if_neg (by decide), zo_addHome hW hA (by omega) hw hv h24, Option.bind_some]
      simp (disch := omega) only [↓zmd, zl, zi_div, zi_rem, zi_lt, zi_le, zi_inj, zi_add, zi_sub, zi_addm, zi_eqm, zi_meq, zi_mlt, zi_ltm, zi_lem, zi_mle, zi_tn, zi_rd, zi_wr, zi_rl, zi_wl, zi_ri, zu_ne, zu_nef, zu_eq, zu_id, zu_rl, zu_rdL, zu_neL, zu_idL, Option.bind_some, ↓reduceIte, Nat.reduceEqDiff, if_pos, if_neg]
      refine zs_ret ⟨rfl, ?_, ?_⟩
      · have := (hk _ hA.1).2
        simp (disch := omega) only [zP_e, zP_s, zP_k, zP_k0, zP_Ls, zP_Le, zO_e, zO_s, zO_92, zO_92s, zO_100, zO_100s, zO_Ls, zO_Le]
        exact this
      · simp (disch := omega) only [zHm_pI]
        exact hA.2
    · unfold f_X12_home
      rw [zm_hTt hW hQ ht, Option.bind_some, if_neg (by decide), if_neg (by rw [zi_neg (by omega)]; exact id), zm_areDays hv]
      rw [show zi w / 100 = zi (w / 100) from zi_div (by omega) (by decide), z_inZ (l := 1) (h := 9) (a := 1) (b := 9) (by decide) (by decide) (by omega) (by decide) (by decide), if_pos (by omega), if_neg (by decide)]
      simp (disch := omega) only [zqk hQ, zw_H hW, ↓zmd, zl, zi_div, zi_rem, zi_lt, zi_le, zi_inj, zi_add, zi_sub, zi_addm, zi_eqm, zi_meq, zi_mlt, zi_ltm, zi_lem, zi_mle, zi_tn, zi_rd, zi_wr, zi_rl, zi_wl, zi_ri, zu_ne, zu_nef, zu_eq, zu_id, zu_rl, zu_rdL, zu_neL, zu_idL, Option.bind_some, ↓reduceIte, Nat.reduceEqDiff, if_pos, if_neg]
      refine zs_ret ⟨rfl, ?_⟩
      exact zQ_ek (zQ_e (zQ_e (zQ_e (zQ_e (zQ_e (zQ_e hQ (by omega)) (by omega)) (by omega)) (by omega)) (by omega)) (by omega)) (by omega)
    · simp (disch := omega) only [zu_ne, zu_id, ↓reduceIte, Nat.reduceEqDiff]
      exact z_b58 h
  · refine z_ask h (-1) (fun m u hA => ?_) (fun o u hQ => ?_)
    · unfold f_X11_home
      by_cases ht : zin a1 (nT (zP s))
      · obtain ⟨t, ht, rfl⟩ := ht
        rw [zo_hTt hW hA ht, Option.bind_some, if_neg (by decide)]
        rcases zi_cases a2 with h2 | ⟨w, hw, rfl⟩
        · have : f_X11_canBeHome a2 u = some 0 := by
            unfold f_X11_canBeHome
            rw [if_pos (Int32.lt_trans h2 (by decide))]
          rw [this]
          exact zs_ret ⟨rfl, hA⟩
        · rw [zo_canHome hw]
          by_cases hw2 : 100 ≤ w ∧ w ≤ 999 ∧ w / 10 % 10 ≤ 1 ∧ w % 10 ≤ 4
          · rw [if_pos hw2, Option.bind_some, if_neg (by decide)]
            rcases zi_cases a3 with h3 | ⟨v, hv, rfl⟩
            · have : f_X11_canBeDays a3 u = some 0 := by
                unfold f_X11_canBeDays
                rw [if_pos (show a3 < 0 from h3)]
              rw [this]
              exact zs_ret ⟨rfl, hA⟩
            · rw [zo_canDays hv]
              by_cases hv2 : v % 1000 ≤ 200 ∧ v / 1000 ≤ v % 1000
              · rw [if_pos hv2, Option.bind_some, if_neg (by decide)]
                have h24 : ¬ nH (zP s) < 24 := fun q => hc ⟨t, w, v, ht, hw, hv, rfl, rfl, rfl, hw2, hv2, q⟩
                have : f_X4_add (zi t) (zi w) (zi v) u = some (-1, u) := by
                  unfold f_X4_add
                  rw [cq_H hA, zw_H hW, if_neg (by rw [show (24 : Int32) = zi 24 from rfl, zi_lt (by omega) (by omega)]; exact h24)]
                rw [this]
                exact zs_ret ⟨rfl, hA⟩
              · rw [if_neg hv2]
                exact zs_ret ⟨rfl, hA⟩
          · rw [if_neg hw2]
            exact zs_ret ⟨rfl, hA⟩
      · rw [zo_hTf hW hA ht]
        exact zs_ret ⟨rfl, hA⟩
    · have hno : ∀ c : Prop, (some ((-1 : Int32), u) : Option (Int32 × yb_S)) = some (-1, u) := fun _ => rfl
      have hret : zs_P (some ((-1 : Int32), u)) (fun q => q.1 = -1 ∧ zQ (zP s) o q.2) := zs_ret ⟨rfl, hQ⟩
      unfold f_X12_home
      by_cases ht : zin a1 (nT (zP s))
      · obtain ⟨t, ht, rfl⟩ := ht
        rw [zm_hTt hW hQ ht, Option.bind_some, if_neg (by decide)]
        rcases zi_cases a2 with h2 | ⟨w, hw, rfl⟩
        · rw [if_pos (show a2 < 0 from h2)]
          exact hret
        · rw [if_neg (by rw [zi_neg (by omega)]; exact id), show zi w / 100 = zi (w / 100) from zi_div (by omega) (by decide), z_inZ (l := 1) (h := 9) (a := 1) (b := 9) (by decide) (by decide) (by omega) (by decide) (by decide)]
          by_cases q1 : 1 ≤ w / 100 ∧ w / 100 ≤ 9
          · rw [if_pos q1, if_neg (by decide)]
            simp (disch := omega) only [show (10 : Int32) = zi 10 from rfl, show (1 : Int32) = zi 1 from rfl, show (4 : Int32) = zi 4 from rfl, zi_div, zi_rem, zi_lt]
            by_cases q2 : 1 < w / 10 % 10
            · rw [if_pos q2]
              exact hret
            · rw [if_neg q2]
              by_cases q3 : 4 < w % 10
              · rw [if_pos q3]
                exact hret
              · rw [if_neg q3]
                rcases zi_cases a3 with h3 | ⟨v, hv, rfl⟩
                · have : f_X12_areDays a3 u = some 0 := by
                    unfold f_X12_areDays
                    rw [if_pos (show a3 < 0 from h3)]
                  rw [this]
                  exact hret
                · rw [zm_areDays hv]
                  by_cases hv2 : v % 1000 ≤ 200 ∧ v / 1000 ≤ v % 1000
                  · rw [if_pos hv2, Option.bind_some, if_neg (by decide)]
                    have h24 : ¬ nH (zP s) < 24 := fun q => hc ⟨t, w, v, ht, hw, hv, rfl, rfl, rfl, by omega, hv2, q⟩
                    rw [zqk hQ (by omega), zw_H hW, if_pos (by rw [show (24 : Int32) = zi 24 from rfl, zi_inj (by omega) (by omega)]; omega)]
                    exact hret
                  · rw [if_neg hv2]
                    exact hret
          · rw [if_neg q1]
            exact hret
      · rw [zm_hTf hW hQ ht]
        exact hret
