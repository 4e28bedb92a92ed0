/-! a day: the class keeps the sums -/
def zKs (M : yb_S) (k : Nat) : yb_S := (M.1, fun id t => if id = 181 ∧ t < k then M.2 181 t + (zGt M t (nF M)).toInt64 else M.2 id t)
theorem zKs_0 {M : yb_S} : zKs M 0 = M := by
  apply Prod.ext
  · rfl
  · funext id t
    exact if_neg (fun q => absurd q.2 (Nat.not_lt_zero _))
theorem zKs_s {M : yb_S} {k : Nat} : yb_pL (zKs M k) 181 k (M.2 181 k + (zGt M k (nF M)).toInt64) = zKs M (k + 1) := by
  apply Prod.ext
  · rfl
  · funext id t
    rw [zu_rlL]
    have e0 : (zKs M k).2 id t = (if id = 181 ∧ t < k then M.2 181 t + (zGt M t (nF M)).toInt64 else M.2 id t) := rfl
    show _ = (if id = 181 ∧ t < k + 1 then M.2 181 t + (zGt M t (nF M)).toInt64 else M.2 id t)
    rw [e0]
    by_cases e : id = 181
    · rw [if_pos e]
      by_cases e2 : t = k
      · rw [if_pos e2, if_pos ⟨e, by omega⟩, e2]
      · rw [if_neg e2]
        by_cases e3 : t < k
        · rw [if_pos ⟨e, e3⟩, if_pos ⟨e, by omega⟩]
        · rw [if_neg (fun q => e3 q.2), if_neg (fun q => e3 (by omega))]
    · rw [if_neg e, if_neg (fun q => e q.1), if_neg (fun q => e q.1)]
theorem zKs_k {M : yb_S} {k : Nat} : (zKs M k).2 181 k = M.2 181 k := if_neg (fun q => absurd q.2 (Nat.lt_irrefl _))
