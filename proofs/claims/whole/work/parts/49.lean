/-! to place: the frames, the homes one after another, to take back -/
theorem zwr_fr {s u : yb_S} {i n : Nat} {k x : Int32} (h : yb_wr s i n k x = some u) {id : Nat} (hid : id ≠ i) : u.1 id = s.1 id := by
  rw [(yb_wr_some h).2]
  exact zu_nef hid
theorem zs_fr {α : Type} {e : Option α} {P Q : α → Prop} (h : zs_P e P) (k : ∀ u, e = some u → Q u) : zs_P e (fun u => P u ∧ Q u) := by
  obtain ⟨a, e, hP⟩ := h
  exact ⟨a, e, hP, k a e⟩
theorem zfr_settle {a b : Int32} {s u : yb_S} (h : f_X8_settle a b s = some u) {id : Nat} (hid : 100 ≤ id) : u.1 id = s.1 id := by
  unfold f_X8_settle at h
  obtain ⟨q1, -, h⟩ := Option.bind_eq_some_iff.mp h
  split at h
  · cases h
    rfl
  obtain ⟨q4, -, h⟩ := Option.bind_eq_some_iff.mp h
  split at h
  · cases h
    rfl
  obtain ⟨v7, -, h⟩ := Option.bind_eq_some_iff.mp h
  obtain ⟨s8, h8, h⟩ := Option.bind_eq_some_iff.mp h
  obtain ⟨s9, h9, h⟩ := Option.bind_eq_some_iff.mp h
  obtain ⟨s10, h10, h⟩ := Option.bind_eq_some_iff.mp h
  obtain ⟨s11, h11, h⟩ := Option.bind_eq_some_iff.mp h
  obtain ⟨v12, -, h⟩ := Option.bind_eq_some_iff.mp h
  obtain ⟨v13, -, h⟩ := Option.bind_eq_some_iff.mp h
  obtain ⟨s14, h14, h⟩ := Option.bind_eq_some_iff.mp h
  obtain ⟨v15, -, h⟩ := Option.bind_eq_some_iff.mp h
  obtain ⟨v16, -, h⟩ := Option.bind_eq_some_iff.mp h
  obtain ⟨s17, h17, h⟩ := Option.bind_eq_some_iff.mp h
  obtain ⟨v18, -, h⟩ := Option.bind_eq_some_iff.mp h
  obtain ⟨s19, h19, h⟩ := Option.bind_eq_some_iff.mp h
  cases h
  rw [zwr_fr h19 (by omega), zwr_fr h17 (by omega), zwr_fr h14 (by omega), zwr_fr h11 (by omega), zwr_fr h10 (by omega), zwr_fr h9 (by omega), zwr_fr h8 (by omega)]
theorem zfr_unsettle {a : Int32} {s u : yb_S} (h : f_X8_unsettle a s = some u) {id : Nat} (hid : 100 ≤ id) : u.1 id = s.1 id := by
  unfold f_X8_unsettle at h
  obtain ⟨q1, -, h⟩ := Option.bind_eq_some_iff.mp h
  split at h
  · cases h
    rfl
  obtain ⟨v4, -, h⟩ := Option.bind_eq_some_iff.mp h
  obtain ⟨v5, -, h⟩ := Option.bind_eq_some_iff.mp h
  obtain ⟨s8, h8, h⟩ := Option.bind_eq_some_iff.mp h
  obtain ⟨s9, h9, h⟩ := Option.bind_eq_some_iff.mp h
  obtain ⟨s10, h10, h⟩ := Option.bind_eq_some_iff.mp h
  obtain ⟨s11, h11, h⟩ := Option.bind_eq_some_iff.mp h
  obtain ⟨v12, -, h⟩ := Option.bind_eq_some_iff.mp h
  obtain ⟨v13, -, h⟩ := Option.bind_eq_some_iff.mp h
  obtain ⟨s14, h14, h⟩ := Option.bind_eq_some_iff.mp h
  obtain ⟨v15, -, h⟩ := Option.bind_eq_some_iff.mp h
  obtain ⟨v16, -, h⟩ := Option.bind_eq_some_iff.mp h
  obtain ⟨s17, h17, h⟩ := Option.bind_eq_some_iff.mp h
  obtain ⟨v18, -, h⟩ := Option.bind_eq_some_iff.mp h
  obtain ⟨s19, h19, h⟩ := Option.bind_eq_some_iff.mp h
  cases h
  rw [zwr_fr h19 (by omega), zwr_fr h17 (by omega), zwr_fr h14 (by omega), zwr_fr h11 (by omega), zwr_fr h10 (by omega), zwr_fr h9 (by omega), zwr_fr h8 (by omega)]
theorem zfr_houses {a b : Int32} {s u : yb_S} (h : f_X12_houses a b s = some u) {id : Nat} (h1 : id ≠ 195) (h2 : id ≠ 196) : u.1 id = s.1 id := by
  unfold f_X12_houses j_X12_houses_15 at h
  split at h
  · obtain ⟨s8, h8, h⟩ := Option.bind_eq_some_iff.mp h
    obtain ⟨s9, h9, h⟩ := Option.bind_eq_some_iff.mp h
    cases h
    rw [zwr_fr h9 h2, zwr_fr h8 h1]
  · obtain ⟨s8, h8, h⟩ := Option.bind_eq_some_iff.mp h
    obtain ⟨s9, h9, h⟩ := Option.bind_eq_some_iff.mp h
    cases h
    rw [zwr_fr h9 h2, zwr_fr h8 h1]
theorem zk_whyW {M : yb_S} {a b : Nat} {x : Int32} (ha : a < nF M) (hW : zW M) : zW (yb_pI M (342 + 1 * a) b x) := by
  obtain ⟨w1, w2, w3, w4, w5, w6, w7, w8, w9, w10, w11, w12, w13, w14⟩ := hW
  have bH : (M.1 176 15).toNatClampNeg ≤ 24 := w1.2.2.2.1
  have bF : (M.1 176 27).toNatClampNeg ≤ 24 := w1.2.2.2.2.2.1
  have bX : (M.1 176 44).toNatClampNeg ≤ 500 := w2.2.1
  have bS : (M.1 176 54).toNatClampNeg ≤ 10 := w2.2.2.2.1
  have bD : (M.1 176 7).toNatClampNeg ≤ 200 := w2.2.2.2.2.2.1
  have ha24 : a < 24 := Nat.lt_of_lt_of_le ha bF
  refine ⟨?_, ?_, ?_, ?_, ?_, ?_, ?_, ?_, ?_, ?_, ?_, ?_, ?_, ?_⟩
  · simpa (disch := omega) only [zRt, zRc, zRh, zRf, zRa, zRr, zRk, zRl, zRn, zRx, zRp, zRb, zRg, zW1, zW2, zWt, zWh, zWf, zWn, zWu, zWa, zWr, zWx, zWs, zWb, zWp, zWg, nT, nH, nF, nR, nK, nX, nS, nD, nB, nG, zTown, zPup, zHeads, zRooms, zThere, zHall, zLodg, zLodger, zOf, zHit, zFinds, zKin, zDayH, zu_ne, zu_nef, zu_eq, zu_id, zu_rl, zu_rdL, zu_neL, zu_idL, ↓reduceIte, Nat.reduceEqDiff] using w1
  · simpa (disch := omega) only [zRt, zRc, zRh, zRf, zRa, zRr, zRk, zRl, zRn, zRx, zRp, zRb, zRg, zW1, zW2, zWt, zWh, zWf, zWn, zWu, zWa, zWr, zWx, zWs, zWb, zWp, zWg, nT, nH, nF, nR, nK, nX, nS, nD, nB, nG, zTown, zPup, zHeads, zRooms, zThere, zHall, zLodg, zLodger, zOf, zHit, zFinds, zKin, zDayH, zu_ne, zu_nef, zu_eq, zu_id, zu_rl, zu_rdL, zu_neL, zu_idL, ↓reduceIte, Nat.reduceEqDiff] using w2
  · simpa (disch := omega) only [zRt, zRc, zRh, zRf, zRa, zRr, zRk, zRl, zRn, zRx, zRp, zRb, zRg, zW1, zW2, zWt, zWh, zWf, zWn, zWu, zWa, zWr, zWx, zWs, zWb, zWp, zWg, nT, nH, nF, nR, nK, nX, nS, nD, nB, nG, zTown, zPup, zHeads, zRooms, zThere, zHall, zLodg, zLodger, zOf, zHit, zFinds, zKin, zDayH, zu_ne, zu_nef, zu_eq, zu_id, zu_rl, zu_rdL, zu_neL, zu_idL, ↓reduceIte, Nat.reduceEqDiff] using w3
  · simpa (disch := omega) only [zRt, zRc, zRh, zRf, zRa, zRr, zRk, zRl, zRn, zRx, zRp, zRb, zRg, zW1, zW2, zWt, zWh, zWf, zWn, zWu, zWa, zWr, zWx, zWs, zWb, zWp, zWg, nT, nH, nF, nR, nK, nX, nS, nD, nB, nG, zTown, zPup, zHeads, zRooms, zThere, zHall, zLodg, zLodger, zOf, zHit, zFinds, zKin, zDayH, zu_ne, zu_nef, zu_eq, zu_id, zu_rl, zu_rdL, zu_neL, zu_idL, ↓reduceIte, Nat.reduceEqDiff] using w4
  · simpa (disch := omega) only [zRt, zRc, zRh, zRf, zRa, zRr, zRk, zRl, zRn, zRx, zRp, zRb, zRg, zW1, zW2, zWt, zWh, zWf, zWn, zWu, zWa, zWr, zWx, zWs, zWb, zWp, zWg, nT, nH, nF, nR, nK, nX, nS, nD, nB, nG, zTown, zPup, zHeads, zRooms, zThere, zHall, zLodg, zLodger, zOf, zHit, zFinds, zKin, zDayH, zu_ne, zu_nef, zu_eq, zu_id, zu_rl, zu_rdL, zu_neL, zu_idL, ↓reduceIte, Nat.reduceEqDiff] using w5
  · simpa (disch := omega) only [zRt, zRc, zRh, zRf, zRa, zRr, zRk, zRl, zRn, zRx, zRp, zRb, zRg, zW1, zW2, zWt, zWh, zWf, zWn, zWu, zWa, zWr, zWx, zWs, zWb, zWp, zWg, nT, nH, nF, nR, nK, nX, nS, nD, nB, nG, zTown, zPup, zHeads, zRooms, zThere, zHall, zLodg, zLodger, zOf, zHit, zFinds, zKin, zDayH, zu_ne, zu_nef, zu_eq, zu_id, zu_rl, zu_rdL, zu_neL, zu_idL, ↓reduceIte, Nat.reduceEqDiff] using w6
  · simpa (disch := omega) only [zRt, zRc, zRh, zRf, zRa, zRr, zRk, zRl, zRn, zRx, zRp, zRb, zRg, zW1, zW2, zWt, zWh, zWf, zWn, zWu, zWa, zWr, zWx, zWs, zWb, zWp, zWg, nT, nH, nF, nR, nK, nX, nS, nD, nB, nG, zTown, zPup, zHeads, zRooms, zThere, zHall, zLodg, zLodger, zOf, zHit, zFinds, zKin, zDayH, zu_ne, zu_nef, zu_eq, zu_id, zu_rl, zu_rdL, zu_neL, zu_idL, ↓reduceIte, Nat.reduceEqDiff] using w7
  · simpa (disch := omega) only [zRt, zRc, zRh, zRf, zRa, zRr, zRk, zRl, zRn, zRx, zRp, zRb, zRg, zW1, zW2, zWt, zWh, zWf, zWn, zWu, zWa, zWr, zWx, zWs, zWb, zWp, zWg, nT, nH, nF, nR, nK, nX, nS, nD, nB, nG, zTown, zPup, zHeads, zRooms, zThere, zHall, zLodg, zLodger, zOf, zHit, zFinds, zKin, zDayH, zu_ne, zu_nef, zu_eq, zu_id, zu_rl, zu_rdL, zu_neL, zu_idL, ↓reduceIte, Nat.reduceEqDiff] using w8
  · simpa (disch := omega) only [zRt, zRc, zRh, zRf, zRa, zRr, zRk, zRl, zRn, zRx, zRp, zRb, zRg, zW1, zW2, zWt, zWh, zWf, zWn, zWu, zWa, zWr, zWx, zWs, zWb, zWp, zWg, nT, nH, nF, nR, nK, nX, nS, nD, nB, nG, zTown, zPup, zHeads, zRooms, zThere, zHall, zLodg, zLodger, zOf, zHit, zFinds, zKin, zDayH, zu_ne, zu_nef, zu_eq, zu_id, zu_rl, zu_rdL, zu_neL, zu_idL, ↓reduceIte, Nat.reduceEqDiff] using w9
  · simpa (disch := omega) only [zRt, zRc, zRh, zRf, zRa, zRr, zRk, zRl, zRn, zRx, zRp, zRb, zRg, zW1, zW2, zWt, zWh, zWf, zWn, zWu, zWa, zWr, zWx, zWs, zWb, zWp, zWg, nT, nH, nF, nR, nK, nX, nS, nD, nB, nG, zTown, zPup, zHeads, zRooms, zThere, zHall, zLodg, zLodger, zOf, zHit, zFinds, zKin, zDayH, zu_ne, zu_nef, zu_eq, zu_id, zu_rl, zu_rdL, zu_neL, zu_idL, ↓reduceIte, Nat.reduceEqDiff] using w10
  · simpa (disch := omega) only [zRt, zRc, zRh, zRf, zRa, zRr, zRk, zRl, zRn, zRx, zRp, zRb, zRg, zW1, zW2, zWt, zWh, zWf, zWn, zWu, zWa, zWr, zWx, zWs, zWb, zWp, zWg, nT, nH, nF, nR, nK, nX, nS, nD, nB, nG, zTown, zPup, zHeads, zRooms, zThere, zHall, zLodg, zLodger, zOf, zHit, zFinds, zKin, zDayH, zu_ne, zu_nef, zu_eq, zu_id, zu_rl, zu_rdL, zu_neL, zu_idL, ↓reduceIte, Nat.reduceEqDiff] using w11
  · simpa (disch := omega) only [zRt, zRc, zRh, zRf, zRa, zRr, zRk, zRl, zRn, zRx, zRp, zRb, zRg, zW1, zW2, zWt, zWh, zWf, zWn, zWu, zWa, zWr, zWx, zWs, zWb, zWp, zWg, nT, nH, nF, nR, nK, nX, nS, nD, nB, nG, zTown, zPup, zHeads, zRooms, zThere, zHall, zLodg, zLodger, zOf, zHit, zFinds, zKin, zDayH, zu_ne, zu_nef, zu_eq, zu_id, zu_rl, zu_rdL, zu_neL, zu_idL, ↓reduceIte, Nat.reduceEqDiff] using w12
  · simpa (disch := omega) only [zRt, zRc, zRh, zRf, zRa, zRr, zRk, zRl, zRn, zRx, zRp, zRb, zRg, zW1, zW2, zWt, zWh, zWf, zWn, zWu, zWa, zWr, zWx, zWs, zWb, zWp, zWg, nT, nH, nF, nR, nK, nX, nS, nD, nB, nG, zTown, zPup, zHeads, zRooms, zThere, zHall, zLodg, zLodger, zOf, zHit, zFinds, zKin, zDayH, zu_ne, zu_nef, zu_eq, zu_id, zu_rl, zu_rdL, zu_neL, zu_idL, ↓reduceIte, Nat.reduceEqDiff] using w13
  · simpa (disch := omega) only [zRt, zRc, zRh, zRf, zRa, zRr, zRk, zRl, zRn, zRx, zRp, zRb, zRg, zW1, zW2, zWt, zWh, zWf, zWn, zWu, zWa, zWr, zWx, zWs, zWb, zWp, zWg, nT, nH, nF, nR, nK, nX, nS, nD, nB, nG, zTown, zPup, zHeads, zRooms, zThere, zHall, zLodg, zLodger, zOf, zHit, zFinds, zKin, zDayH, zu_ne, zu_nef, zu_eq, zu_id, zu_rl, zu_rdL, zu_neL, zu_idL, ↓reduceIte, Nat.reduceEqDiff] using w14
theorem zWy_W {q : Nat → Nat} {f h : Nat} {M : yb_S} (hW : zW M) : ∀ {n : Nat}, (∀ j, j < n → q j < nF M) → zW (zWy q f h M n) ∧ (zWy q f h M n).2 = M.2
  | 0, _ => ⟨hW, rfl⟩
  | n + 1, hq => by
    have h8 := zw_F8 hW
    have ih := zWy_W (q := q) (f := f) (h := h) hW (n := n) (fun j hj => hq j (by omega))
    have hn := (zWy_N (q := q) (f := f) (h := h) (M := M) (n := n) (fun j hj => Nat.lt_of_lt_of_le (hq j (by omega)) h8)).1
    rw [zWy_s]
    split
    · exact ⟨zk_whyW (by rw [hn]; exact hq n (by omega)) ih.1, ih.2⟩
    · exact ih
/-- whys or none -/
def zWk (kept : Bool) (q : Nat → Nat) (f h : Nat) (M : yb_S) (n : Nat) : yb_S := match kept with
  | false => M
  | true => zWy q f h M n
theorem zWk_ok {kept : Bool} {q : Nat → Nat} {f h n : Nat} {M : yb_S} (hW : zW M) (hq : ∀ j, j < n → q j < nF M) : zW (zWk kept q f h M n) ∧ (∀ id, id < 342 ∨ 367 ≤ id → (zWk kept q f h M n).1 id = M.1 id) ∧ (zWk kept q f h M n).2 = M.2 ∧ (kept = false → zWk kept q f h M n = M) := by
  have h8 := zw_F8 hW
  cases kept with
  | false => exact ⟨hW, fun _ _ => rfl, rfl, fun _ => rfl⟩
  | true => exact ⟨(zWy_W hW hq).1, fun id hid => zWy_c hid (fun j hj => Nat.lt_of_lt_of_le (hq j hj) h8), (zWy_W hW hq).2, fun e => by cases e⟩
/-- homes one after another: the first k in the line q -/
def zPl (kept : Bool) (q : Nat → Nat) (M : yb_S) : Nat → yb_S × Nat
  | 0 => (M, 0)
  | k + 1 => match zBst (zPl kept q M k).1 (q k) (nH M) with
    | none => zPl kept q M k
    | some h => (zHs (zWk kept q (q k) h (zPl kept q M k).1 k) (q k) h, (zPl kept q M k).2 + 1)
theorem zPl_s {kept : Bool} {q : Nat → Nat} {M : yb_S} {k : Nat} : zPl kept q M (k + 1) = match zBst (zPl kept q M k).1 (q k) (nH M) with
    | none => zPl kept q M k
    | some h => (zHs (zWk kept q (q k) h (zPl kept q M k).1 k) (q k) h, (zPl kept q M k).2 + 1) := rfl
def zPlo (kept : Bool) (q : Nat → Nat) (M : yb_S) (k : Nat) : Prop := (zW (zPl kept q M k).1) ∧ (∀ id, id ≠ 195 → id ≠ 196 → id < 342 ∨ 367 ≤ id → (zPl kept q M k).1.1 id = M.1 id) ∧ (∀ f, (∀ j, j < k → q j ≠ f) → (zPl kept q M k).1.1 195 f = M.1 195 f ∧ (zPl kept q M k).1.1 196 f = M.1 196 f) ∧ (kept = false → ∀ id, id ≠ 195 → id ≠ 196 → (zPl kept q M k).1.1 id = M.1 id) ∧ ((zPl kept q M k).1.2 = M.2) ∧ ((zPl kept q M k).2 ≤ k) ∧ ((zPl kept q M k).2 = 0 → (zPl kept q M k).1 = M) ∧ (∀ j, j < k → (zPl kept q M k).1.1 195 (q j) = 0 ∨ (zPl kept q M k).1.1 195 (q j) = 1)
theorem zN_fr {M N : yb_S} (h : N.1 176 = M.1 176) : nF N = nF M ∧ nH N = nH M ∧ nT N = nT M := by
  unfold nF nH nT
  rw [h]
  exact ⟨rfl, rfl, rfl⟩
theorem zPl_st {kept : Bool} {q : Nat → Nat} {M : yb_S} {c k h : Nat} (hinj : ∀ j k, j < c → k < c → q j = q k → j = k) (hlt : ∀ j, j < c → q j < nF M ∧ M.1 195 (q j) = 0) (hk : k < c) (p : zPlo kept q M k) (hz : zBst (zPl kept q M k).1 (q k) (nH M) = some h) : let N := zWk kept q (q k) h (zPl kept q M k).1 k; zW N ∧ q k < nF N ∧ h < nH N ∧ N.1 195 (q k) = 0 ∧ zFree N h := by
  intro N
  obtain ⟨n1, n2, n3⟩ := zN_fr (p.2.1 176 (by decide) (by decide) (by decide))
  have hb := zBst_ok hz
  obtain ⟨b1, b2, b3, b4⟩ := zWk_ok (kept := kept) (q := q) (f := q k) (h := h) (n := k) p.1 (fun j hj => by rw [n1]; exact (hlt j (by omega)).1)
  obtain ⟨m1, m2, m3⟩ := zN_fr (b2 176 (by decide))
  have e0 : (zPl kept q M k).1.1 195 (q k) = 0 := by
    rw [(p.2.2.1 (q k) (fun j hj e => by have := hinj j k (by omega) hk e; omega)).1]
    exact (hlt k hk).2
  have hqk : q k < nF (zPl kept q M k).1 := by rw [n1]; exact (hlt k hk).1
  have hfr := zFree_of p.1 hqk hb.2 (fun ⟨x, _⟩ => by rw [e0] at x; exact absurd x (by decide))
  refine ⟨b1, by rw [m1]; exact hqk, by rw [m2, n2]; exact hb.1, by rw [b2 195 (by decide)]; exact e0, fun g hg h1 => ?_⟩
  rw [b2 195 (by decide)] at h1
  rw [b2 196 (by decide)]
  exact hfr g (by rw [m1] at hg; exact hg) h1
theorem zPl_ok {kept : Bool} {q : Nat → Nat} {M : yb_S} {c : Nat} (hW : zW M) (hinj : ∀ j k, j < c → k < c → q j = q k → j = k) (hlt : ∀ j, j < c → q j < nF M ∧ M.1 195 (q j) = 0) : ∀ k, k ≤ c → zPlo kept q M k := by
  intro k
  induction k with
  | zero => exact fun _ => ⟨hW, fun _ _ _ _ => rfl, fun _ _ => ⟨rfl, rfl⟩, fun _ _ _ _ => rfl, rfl, Nat.le_refl _, fun _ => rfl, fun j hj => absurd hj (Nat.not_lt_zero _)⟩
  | succ k ih =>
    intro hk
    have p := ih (by omega)
    have es := zPl_s (kept := kept) (q := q) (M := M) (k := k)
    have e0 : (zPl kept q M k).1.1 195 (q k) = 0 := by
      rw [(p.2.2.1 (q k) (fun j hj e => by have := hinj j k (by omega) (by omega) e; omega)).1]
      exact (hlt k (by omega)).2
    cases hz : zBst (zPl kept q M k).1 (q k) (nH M) with
    | none =>
      rw [hz] at es
      have es : zPl kept q M (k + 1) = zPl kept q M k := es
      refine ⟨?_, ?_, ?_, ?_, ?_, ?_, ?_, ?_⟩
      · rw [es]; exact p.1
      · rw [es]; exact p.2.1
      · rw [es]; exact fun f hf => p.2.2.1 f (fun j hj => hf j (by omega))
      · rw [es]; exact p.2.2.2.1
      · rw [es]; exact p.2.2.2.2.1
      · rw [es]; exact Nat.le_succ_of_le p.2.2.2.2.2.1
      · rw [es]; exact p.2.2.2.2.2.2.1
      · rw [es]
        intro j hj
        by_cases e : j = k
        · subst e
          exact Or.inl e0
        · exact p.2.2.2.2.2.2.2 j (by omega)
    | some h =>
      rw [hz] at es
      have es : zPl kept q M (k + 1) = (zHs (zWk kept q (q k) h (zPl kept q M k).1 k) (q k) h, (zPl kept q M k).2 + 1) := es
      obtain ⟨n1, n2, n3⟩ := zN_fr (p.2.1 176 (by decide) (by decide) (by decide))
      obtain ⟨b1, b2, b3, b4⟩ := zWk_ok (kept := kept) (q := q) (f := q k) (h := h) (n := k) p.1 (fun j hj => by rw [n1]; exact (hlt j (by omega)).1)
      obtain ⟨c1, c2, c3, c4, c5⟩ := zPl_st hinj hlt (by omega) p hz
      have hH := zHs_h (M := zWk kept q (q k) h (zPl kept q M k).1 k) (f := q k) (h := h)
      refine ⟨?_, ?_, ?_, ?_, ?_, ?_, ?_, ?_⟩
      · rw [es]; exact zHs_W c1 c2 c3 c4 c5
      · rw [es]
        intro id h1 h2 h3
        dsimp only
        rw [zHous_c hH h1 h2, b2 id h3]
        exact p.2.1 id h1 h2 h3
      · rw [es]
        intro f hf
        have hne := hf k (by omega)
        dsimp only
        rw [hH.1 195 f (Or.inr (Ne.symm hne)), hH.1 196 f (Or.inr (Ne.symm hne)), b2 195 (by decide), b2 196 (by decide)]
        exact p.2.2.1 f (fun j hj => hf j (by omega))
      · rw [es]
        intro hkp id h1 h2
        dsimp only
        rw [zHous_c hH h1 h2, b4 hkp]
        exact p.2.2.2.1 hkp id h1 h2
      · rw [es]
        exact b3.trans p.2.2.2.2.1
      · rw [es]
        exact Nat.succ_le_succ p.2.2.2.2.2.1
      · rw [es]
        intro e
        exact absurd e (by omega)
      · rw [es]
        intro j hj
        dsimp only
        by_cases e : q j = q k
        · rw [e]
          exact Or.inr zHs_1.1
        · rw [hH.1 195 _ (Or.inr e), b2 195 (by decide)]
          exact p.2.2.2.2.2.2.2 j (by
            have : j ≠ k := fun e2 => e (by rw [e2])
            omega)
