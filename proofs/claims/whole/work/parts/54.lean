/-! the start's state -/
theorem zi_s0 : zInv yb_s0 := by
  have m0 : ∀ {id k : Nat}, id ≠ 54 → id ≠ 176 → (zP yb_s0).1 id k = 0 := fun {id k} h1 h2 => by
    show (if zeP id k then ci_2 id k else 0) = 0
    rw [ci_z2 h1 h2]
    split <;> rfl
  have mk : ∀ {k : Nat}, k ≠ 58 → (zP yb_s0).1 176 k = 0 := fun {k} h => by
    show (if zeP 176 k then ci_2 176 k else 0) = 0
    rw [show ci_2 176 k = 0 from by simp [ci_2, ci_1, ci_0, yb_u, h]]
    split <;> rfl
  have m58 : (zP yb_s0).1 176 58 = -1 := by decide
  have m2 : ∀ {id k : Nat}, (zP yb_s0).2 id k = 0 := fun {id k} => by
    show (if 176 ≤ id ∧ id < 603 then (0 : Int64) else 0) = 0
    split <;> rfl
  have o0 : ∀ {id k : Nat}, id ≠ 54 → id ≠ 176 → (zO yb_s0).1 id k = 0 := fun {id k} h1 h2 => by
    show (if zeO id k then ci_2 id k else 0) = 0
    rw [ci_z2 h1 h2]
    split <;> rfl
  have o2 : ∀ {id k : Nat}, (zO yb_s0).2 id k = 0 := fun {id k} => by
    show (if id < 176 then (0 : Int64) else 0) = 0
    split <;> rfl
  have o540 : (zO yb_s0).1 54 0 = 0 := by decide
  have o541 : (zO yb_s0).1 54 1 = -1 := by decide
  have nT0 : nT (zP yb_s0) = 0 := by unfold nT; rw [mk (by decide)]; rfl
  have nH0 : nH (zP yb_s0) = 0 := by unfold nH; rw [mk (by decide)]; rfl
  have nF0 : nF (zP yb_s0) = 0 := by unfold nF; rw [mk (by decide)]; rfl
  have nR0 : nR (zP yb_s0) = 0 := by unfold nR; rw [mk (by decide)]; rfl
  have nK0 : nK (zP yb_s0) = 0 := by unfold nK; rw [mk (by decide)]; rfl
  have nX0 : nX (zP yb_s0) = 0 := by unfold nX; rw [mk (by decide)]; rfl
  have nS0 : nS (zP yb_s0) = 0 := by unfold nS; rw [mk (by decide)]; rfl
  have nD0 : nD (zP yb_s0) = 0 := by unfold nD; rw [mk (by decide)]; rfl
  have nB0 : nB (zP yb_s0) = 0 := by unfold nB; rw [mk (by decide)]; rfl
  have nG0 : nG (zP yb_s0) = 0 := by unfold nG; rw [mk (by decide)]; rfl
  have hC : zC yb_s0 := Or.inl (by decide)
  have h58 : yb_s0.1 176 58 = -1 := by decide
  unfold zInv zW zR
  generalize zP yb_s0 = M at *
  generalize zO yb_s0 = o at *
  have n0 : ∀ {n j : Nat}, n = 0 → j < n → False := fun h1 h2 => by omega
  refine ⟨⟨?_, ?_, ?_, ?_, ?_, ?_, ?_, ?_, ?_, ?_, ?_, ?_, ?_, ?_⟩, ⟨?_, ?_, ?_, ?_, ?_, ?_, ?_, ?_, ?_, ?_, ?_, ?_, ?_⟩, hC, h58⟩
  · unfold zW1
    simp only [nT0, nH0, nF0, nR0, nK0, mk (k := 6) (by decide), mk (k := 15) (by decide), mk (k := 27) (by decide), mk (k := 36) (by decide), mk (k := 40) (by decide)]
    decide
  · unfold zW2
    simp only [nX0, nS0, nD0, nB0, nG0, mk (k := 44) (by decide), mk (k := 54) (by decide), mk (k := 7) (by decide), mk (k := 84) (by decide), mk (k := 85) (by decide), mk (k := 8) (by decide)]
    exact ⟨rfl, by decide, rfl, by decide, rfl, by decide, rfl, by decide, rfl, by decide, 0, by decide, rfl⟩
  · exact fun t ht => (n0 nT0 ht).elim
  · exact fun t ht => (n0 nH0 ht).elim
  · exact fun t ht => (n0 nF0 ht).elim
  · exact ⟨fun f _ => m0 (by decide) (by decide), fun t _ => ⟨m0 (by decide) (by decide), m2⟩, fun t => Or.inl (m0 (by decide) (by decide))⟩
  · exact fun f g hf => (n0 nF0 hf).elim
  · exact fun c hc => m0 (by omega) (by omega)
  · exact ⟨fun t ht => (n0 nR0 ht).elim, fun t ht => (n0 nK0 ht).elim⟩
  · exact fun t ht => (n0 nX0 ht).elim
  · exact ⟨Or.inl m58, fun t ht => (n0 nS0 ht).elim⟩
  · exact fun t ht => (n0 nD0 ht).elim
  · exact Or.inl (mk (by decide))
  · exact ⟨fun t ht => (n0 nB0 ht).elim, fun t ht => (n0 nG0 ht).elim⟩
  · exact ⟨by rw [o0 (by decide) (by decide), mk (by decide)], fun t ht => (n0 nT0 ht).elim, fun t ht => ⟨by rw [o0 (by decide) (by decide), m0 (by decide) (by decide)], by rw [o2, m2]⟩⟩
  · refine ⟨fun t ht => ⟨?_, ?_, ?_, ?_⟩, fun t ht => (n0 nH0 ht).elim, fun t ht => (n0 nF0 ht).elim⟩
    · rw [o0 (by decide) (by decide)]
      unfold zRooms
      rw [nH0]
      rfl
    · rw [o0 (by decide) (by decide)]
      unfold zHeads
      rw [nF0]
      rfl
    · rw [o0 (by decide) (by decide)]
      unfold zPup
      rw [nF0]
      rfl
    · rw [o0 (by decide) (by decide)]
      unfold zLodg
      rw [nF0]
      rfl
  · exact ⟨by rw [o0 (by decide) (by decide), mk (by decide)], fun t ht => (n0 nH0 ht).elim⟩
  · exact ⟨by rw [o0 (by decide) (by decide), mk (by decide)], fun t ht => (n0 nF0 ht).elim⟩
  · exact fun c hc d hd => by rw [o0 (by omega) (by omega), m0 (by omega) (by omega)]
  · exact ⟨by rw [o0 (by decide) (by decide), mk (by decide)], by rw [o0 (by decide) (by decide), mk (by decide)], fun t ht => (n0 nR0 ht).elim, fun t ht => (n0 nK0 ht).elim⟩
  · intro f hf
    rw [nF0, o0 (by decide) (by decide), o0 (by decide) (by decide)]
    exact ⟨rfl, rfl⟩
  · exact ⟨by rw [o540, mk (by decide)], by rw [o541, m58], fun t ht => (n0 nS0 ht).elim⟩
  · refine ⟨by rw [o0 (by decide) (by decide), mk (by decide)], by rw [o0 (by decide) (by decide), mk (by decide)], ?_⟩
    rw [o0 (by decide) (by decide)]
    unfold zThere
    rw [nF0]
    rfl
  · exact ⟨by rw [o0 (by decide) (by decide), mk (by decide)], fun t ht => (n0 nX0 ht).elim⟩
  · refine ⟨0, Nat.zero_le _, o0 (by decide) (by decide), fun _ => rfl, fun f hf g hg => ⟨fun h => absurd h (Nat.not_lt_zero _), fun h => ?_⟩⟩
    rw [mk (by decide)] at h
    exact absurd h (by decide)
  · exact ⟨fun t ht => (n0 nD0 ht).elim, fun t ht => (n0 nD0 ht).elim, fun d _ t _ _ => o0 (by omega) (by omega)⟩
  · refine ⟨by rw [o0 (by decide) (by decide), mk (by decide)], by rw [o0 (by decide) (by decide), mk (by decide)], fun d hd => ⟨?_, ?_, ?_⟩⟩
    · rw [nB0, o0 (by decide) (by decide)]
      rfl
    · rw [nB0, o0 (by decide) (by decide)]
      rfl
    · rw [nG0, o0 (by decide) (by decide)]
      rfl
