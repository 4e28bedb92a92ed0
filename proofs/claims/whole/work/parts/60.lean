/-! a day: the class's sum for a town -/
theorem zwi_m {x : Int32} : yb_max 0 (yb_min 1000000 x) = zwi x := by
  unfold yb_max yb_min zwi
  by_cases h1 : x < 1000000
  · rw [if_pos h1]
    by_cases h2 : 0 < x
    · rw [if_pos h2, if_pos (Int32.le_of_lt h2), if_pos (Int32.le_of_lt h1)]
    · rw [if_neg h2]
      by_cases h3 : 0 ≤ x
      · rw [if_pos h3, if_pos (Int32.le_of_lt h1)]
        exact Int32.le_antisymm h3 (Int32.not_lt.mp h2)
      · rw [if_neg h3]
  · have h1' := Int32.not_lt.mp h1
    have h0 : (0 : Int32) ≤ x := Int32.le_trans (by decide) h1'
    rw [if_neg h1, if_pos (by decide), if_pos h0]
    by_cases h2 : x ≤ 1000000
    · rw [if_pos h2]
      exact Int32.le_antisymm h1' h2
    · rw [if_neg h2]
def zGt (M : yb_S) (t k : Nat) : Int32 := zsum (fun f => cond (zTown M f == zi t) (zNg M f) 0) k
theorem zo_sumG {M m s : yb_S} (hW : zW M) (hA : zA M m s) {t : Nat} (ht : t < nT M) : zs_P (f_X8_sumOf (zi t) s) (fun a => a.1 = zGt M t (nF M) ∧ zfo s a.2) := by
  have h8 := zw_F8 hW
  have h9 := zw_H8 hW
  have h10 := zw_T8 hW
  unfold f_X8_sumOf l_X8_sumOf_4
  refine zs_up (fun k a => a.1 = zGt M t k ∧ a.2.1 = zi k ∧ zfo s a.2.2) (nF M) ?_ yb_N 0 _ (Nat.zero_le _) (by unfold yb_N; omega) (by exact ⟨rfl, rfl, zfo_refl s⟩)
  rintro k ⟨x, y, u⟩ rc hk ⟨i1, i2, i3⟩ hn
  dsimp only at i1 i2 i3
  subst i1 i2
  have hAu := zfo_A i3 hA
  show zs_P (f_X8_sumOf_4 (fun x2 x3 s => rc (x2, x3, s)) (zi t) (zGt M t k) (zi k) u) _
  unfold f_X8_sumOf_4 j_X8_sumOf_61
  rw [cq_F hAu, zw_F hW]
  rcases Nat.lt_or_ge k (nF M) with hlt | hge
  · have es : zGt M t (k + 1) = zGt M t k + cond (zTown M k == zi t) (zNg M k) 0 := rfl
    rw [if_neg (by rw [zi_le (by omega) (by omega)]; omega), zi_rd (by omega) (by omega), Option.bind_some, cq_30 hAu hlt, zi_succ]
    by_cases c : zTown M k = zi t
    · have h1 : M.1 195 k = 1 := Classical.byContradiction fun q => by
        rw [zTown_0 q, show (-1 : Int32) = zm from rfl] at c
        exact absurd c.symm (by rw [zi_eqm (by omega)]; exact id)
      obtain ⟨h, hh, eh⟩ : ∃ h, h < nH M ∧ M.1 196 k = zi h := by
        rcases (zw_f hW hlt).2.2.2.1 with ⟨-, h, hh, e⟩ | ⟨q, -⟩
        · exact ⟨h, hh, e⟩
        · exact absurd h1 q
      rw [if_pos c, zi_rd (by omega) (by omega), Option.bind_some, cq_29 hAu hlt, eh]
      refine zs_bind (zo_tellsH (c := 3) hW hAu (by decide) hlt hh) fun a ha => ?_
      have e2 : zGt M t (k + 1) = zGt M t k + zwi a.1 := by
        rw [es, c, show (zi t == zi t) = true by simp]
        show _ + zNg M k = _
        unfold zNg
        rw [eh, zi_tn (by omega), ha.1]
      rw [zwi_m, ← e2]
      exact hn hlt _ ⟨rfl, rfl, zfo_trans i3 ha.2⟩
    · rw [if_neg c]
      have e2 : zGt M t (k + 1) = zGt M t k := by
        rw [es, show (zTown M k == zi t) = false from beq_eq_false_iff_ne.mpr c]
        simp
      exact hn hlt _ ⟨e2.symm, rfl, i3⟩
  · have hkl := Nat.le_antisymm hk hge
    subst hkl
    rw [if_pos (Int32.le_refl _)]
    exact zs_ret ⟨rfl, i3⟩
