/-! writing and the essential halves, by ranges of cells -/
theorem zeP_t {id k : Nat} (h : (177 ≤ id ∧ id < 217) ∨ (242 ≤ id ∧ id < 314) ∨ (321 ≤ id ∧ id < 332) ∨ (333 ≤ id ∧ id < 337) ∨ (341 ≤ id ∧ id < 592) ∨ (598 ≤ id ∧ id < 603)) : zeP id k = true := by
  unfold zeP
  repeat' split
  all_goals first | rfl | (exfalso; omega) | (apply decide_eq_true; omega)
theorem zeP_f {id k : Nat} (h : id < 176 ∨ (217 ≤ id ∧ id < 242) ∨ (314 ≤ id ∧ id < 321) ∨ id = 332 ∨ (337 ≤ id ∧ id < 341) ∨ (592 ≤ id ∧ id < 598) ∨ 603 ≤ id) : zeP id k = false := by
  unfold zeP
  repeat' split
  all_goals first | rfl | (exfalso; omega) | (apply decide_eq_false; omega)
theorem zeO_t {id k : Nat} (h : id < 90 ∨ id = 96 ∨ (103 ≤ id ∧ id < 128) ∨ (137 ≤ id ∧ id < 176)) : zeO id k = true := by
  unfold zeO
  repeat' split
  all_goals first | rfl | (exfalso; omega) | (apply decide_eq_true; omega)
theorem zeO_f {id k : Nat} (h : id = 90 ∨ id = 91 ∨ (93 ≤ id ∧ id < 96) ∨ (97 ≤ id ∧ id < 100) ∨ id = 101 ∨ id = 102 ∨ (128 ≤ id ∧ id < 137) ∨ 176 ≤ id) : zeO id k = false := by
  unfold zeO
  repeat' split
  all_goals first | rfl | (exfalso; omega) | (apply decide_eq_false; omega)
theorem zP_e {s : yb_S} {id k : Nat} {x : Int32} (h : (177 ≤ id ∧ id < 217) ∨ (242 ≤ id ∧ id < 314) ∨ (321 ≤ id ∧ id < 332) ∨ (333 ≤ id ∧ id < 337) ∨ (341 ≤ id ∧ id < 592) ∨ (598 ≤ id ∧ id < 603)) : zP (yb_pI s id k x) = yb_pI (zP s) id k x := zP_pI1 (zeP_t h)
theorem zP_s {s : yb_S} {id k : Nat} {x : Int32} (h : id < 176 ∨ (217 ≤ id ∧ id < 242) ∨ (314 ≤ id ∧ id < 321) ∨ id = 332 ∨ (337 ≤ id ∧ id < 341) ∨ (592 ≤ id ∧ id < 598) ∨ 603 ≤ id) : zP (yb_pI s id k x) = zP s := zP_pI0 (zeP_f h)
theorem zP_k {s : yb_S} {k : Nat} {x : Int32} (h : k = 6 ∨ k = 7 ∨ k = 8 ∨ k = 15 ∨ k = 27 ∨ k = 36 ∨ k = 40 ∨ k = 44 ∨ k = 54 ∨ k = 58 ∨ k = 64 ∨ k = 84 ∨ k = 85) : zP (yb_pI s 176 k x) = yb_pI (zP s) 176 k x := by
  apply zP_pI1
  rcases h with h | h | h | h | h | h | h | h | h | h | h | h | h <;> subst h <;> rfl
theorem zP_k0 {s : yb_S} {k : Nat} {x : Int32} (h : k = 42 ∨ k = 45 ∨ k = 46 ∨ k = 47 ∨ k = 48 ∨ k = 49 ∨ k = 55 ∨ k = 65 ∨ k = 74 ∨ k = 75 ∨ k = 76 ∨ k = 77 ∨ k = 78) : zP (yb_pI s 176 k x) = zP s := by
  apply zP_pI0
  rcases h with h | h | h | h | h | h | h | h | h | h | h | h | h <;> subst h <;> rfl
theorem zO_e {s : yb_S} {id k : Nat} {x : Int32} (h : id < 90 ∨ id = 96 ∨ (103 ≤ id ∧ id < 128) ∨ (137 ≤ id ∧ id < 176)) : zO (yb_pI s id k x) = yb_pI (zO s) id k x := zO_pI1 (zeO_t h)
theorem zO_s {s : yb_S} {id k : Nat} {x : Int32} (h : id = 90 ∨ id = 91 ∨ (93 ≤ id ∧ id < 96) ∨ (97 ≤ id ∧ id < 100) ∨ id = 101 ∨ id = 102 ∨ (128 ≤ id ∧ id < 137) ∨ 176 ≤ id) : zO (yb_pI s id k x) = zO s := zO_pI0 (zeO_f h)
theorem zO_92 {s : yb_S} {x : Int32} : zO (yb_pI s 92 0 x) = yb_pI (zO s) 92 0 x := zO_pI1 rfl
theorem zO_92s {s : yb_S} {k : Nat} {x : Int32} (h : k = 1 ∨ k = 2 ∨ k = 10 ∨ k = 11) : zO (yb_pI s 92 k x) = zO s := by
  apply zO_pI0
  rcases h with h | h | h | h <;> subst h <;> rfl
theorem zO_100 {s : yb_S} {x : Int32} : zO (yb_pI s 100 5 x) = yb_pI (zO s) 100 5 x := zO_pI1 rfl
theorem zO_100s {s : yb_S} {x : Int32} : zO (yb_pI s 100 4 x) = zO s := zO_pI0 rfl
theorem zP_Ls {s : yb_S} {id k : Nat} {x : Int64} (h : id < 176 ∨ 603 ≤ id) : zP (yb_pL s id k x) = zP s := zP_pL0 (by omega)
theorem zP_Le {s : yb_S} {id k : Nat} {x : Int64} (h : 176 ≤ id ∧ id < 603) : zP (yb_pL s id k x) = yb_pL (zP s) id k x := zP_pL h
theorem zO_Ls {s : yb_S} {id k : Nat} {x : Int64} (h : 176 ≤ id) : zO (yb_pL s id k x) = zO s := zO_of (zHo_pL h)
theorem zO_Le {s : yb_S} {id k : Nat} {x : Int64} (h : id < 176) : zO (yb_pL s id k x) = yb_pL (zO s) id k x := zO_pL h
theorem zC_congr {s t : yb_S} (h : ∀ id, 207 ≤ id → id < 242 → t.1 id = s.1 id) (h1 : t.1 176 27 = s.1 176 27) (h2 : t.1 176 36 = s.1 176 36) (h3 : t.1 176 40 = s.1 176 40) (h4 : t.1 176 42 = s.1 176 42) (hC : zC s) : zC t := by
  unfold zC at hC ⊢
  rw [h4]
  refine hC.imp id fun q f o hf24 hf ho hfo => ?_
  have e := q f o hf24 (by unfold nF at hf ⊢; rwa [← h1]) (by unfold nF at ho ⊢; rwa [← h1]) hfo
  have hF : zFinds t f o = zFinds s f o := by
    simp only [zFinds, zHit, zOf, nR, nK, h2, h3, h 214 (by omega) (by omega), h 215 (by omega) (by omega), h 216 (by omega) (by omega), h 208 (by omega) (by omega), h 209 (by omega) (by omega), h 212 (by omega) (by omega), h 213 (by omega) (by omega)]
  have hH : zHit t f o = zHit s f o := by
    funext r k
    simp only [zHit, zOf, nR, h2, h 214 (by omega) (by omega), h 215 (by omega) (by omega), h 216 (by omega) (by omega), h 208 (by omega) (by omega), h 209 (by omega) (by omega), h 212 (by omega) (by omega), h 213 (by omega) (by omega)]
  unfold zSure at e ⊢
  rw [hF, hH]
  simp only [nR, nK, h2, h3, h 215 (by omega) (by omega), h 216 (by omega) (by omega), h 208 (by omega) (by omega), h 209 (by omega) (by omega)]
  rw [h (218 + f % 24) (by omega) (by omega)]
  exact e
