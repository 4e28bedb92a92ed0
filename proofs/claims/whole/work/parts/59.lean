/-! a day: the class keeps where all are -/
def zCd (M : yb_S) (f : Nat) : Int32 := if M.1 195 f = 0 then 100 else if M.1 195 f = 1 then M.1 196 f else 101
def zKp (M : yb_S) (k : Nat) : yb_S := (fun id d => if 367 ≤ id ∧ id < 367 + k ∧ d = nD M then zCd M (id - 367) else M.1 id d, M.2)
theorem zKp_c {M : yb_S} {k id : Nat} (h : id < 367) : (zKp M k).1 id = M.1 id := funext fun f => if_neg (fun q => by omega)
theorem zKp_0 {M : yb_S} : zKp M 0 = M := by
  apply Prod.ext
  · funext id f
    exact if_neg (fun q => by omega)
  · rfl
theorem zKp_s {M : yb_S} {k : Nat} : yb_pI (zKp M k) (367 + 1 * k) (nD M) (zCd M k) = zKp M (k + 1) := by
  apply Prod.ext
  · funext id d
    rw [zu_rd]
    show _ = (if 367 ≤ id ∧ id < 367 + (k + 1) ∧ d = nD M then zCd M (id - 367) else M.1 id d)
    have e0 : (zKp M k).1 id d = (if 367 ≤ id ∧ id < 367 + k ∧ d = nD M then zCd M (id - 367) else M.1 id d) := rfl
    rw [e0]
    by_cases e : id = 367 + 1 * k
    · rw [if_pos e]
      by_cases e2 : d = nD M
      · rw [if_pos e2, if_pos (by omega), show id - 367 = k by omega]
      · rw [if_neg e2, if_neg (by omega), if_neg (by omega)]
    · rw [if_neg e]
      by_cases e3 : 367 ≤ id ∧ id < 367 + k ∧ d = nD M
      · rw [if_pos e3, if_pos (by omega)]
      · rw [if_neg e3, if_neg (by omega)]
  · rfl
theorem zo_keepF {M m s : yb_S} (hW : zW M) (hA : zA M m s) (hd : nD M < 200) : zs_P (f_X0_keepFamilies_1 s) (fun u => zW (zKp M (nF M)) ∧ zA (zKp M (nF M)) m u ∧ ∀ j, j < nF M → u.1 (139 + 1 * j) (nD M) = zCd M j) := by
  have h8 := zw_F8 hW
  unfold f_X0_keepFamilies_1 l_X0_keepFamilies_1_7
  rw [cq_D hA, zw_D hW]
  refine zs_up (fun k a => a.1 = zi k ∧ zW (zKp M k) ∧ zA (zKp M k) m a.2 ∧ ∀ j, j < k → a.2.1 (139 + 1 * j) (nD M) = zCd M j) (nF M) ?_ yb_N 0 _ (Nat.zero_le _) (by unfold yb_N; omega) (by
    rw [zKp_0]
    exact ⟨rfl, hW, hA, fun j hj => absurd hj (Nat.not_lt_zero _)⟩)
  rintro k ⟨x, u⟩ rc hk ⟨i1, i2, i3, i4⟩ hn
  dsimp only at i1 i2 i3 i4
  subst i1
  show zs_P (f_X0_keepFamilies_1_7 (fun x1 s => rc (x1, s)) (zi (nD M)) (zi k) u) _
  unfold f_X0_keepFamilies_1_7 j_X0_keepFamilies_1_103
  obtain ⟨n1, n2, n3⟩ := zN_fr (M := M) (N := zKp M k) (zKp_c (by decide))
  have nd : nD (zKp M k) = nD M := by
    unfold nD
    rw [zKp_c (by decide)]
  rw [cq_F i3, zw_F i2, n1]
  rcases Nat.lt_or_ge k (nF M) with hlt | hge
  · have hkN : k < nF (zKp M k) := by rw [n1]; exact hlt
    have fin : ∀ x, x = zCd M k → zs_P (rc (zi (k + 1), yb_pI u (139 + 1 * k) (nD M) x)) (fun u => zW (zKp M (nF M)) ∧ zA (zKp M (nF M)) m u ∧ ∀ j, j < nF M → u.1 (139 + 1 * j) (nD M) = zCd M j) := by
      intro x hx
      have hk2 := zk_kept (x := x) (d := nD M) hkN (by rw [nd]; exact Nat.le_refl _) i2 i3.1
      rw [hx, zKp_s] at hk2
      refine hn hlt _ ⟨rfl, hk2.1, ⟨?_, ?_⟩, fun j hj => ?_⟩
      · dsimp only
        rw [hx, zO_e (by omega)]
        exact hk2.2
      · dsimp only
        rw [zHm_pI (by omega)]
        exact i3.2
      · dsimp only
        by_cases e : j = k
        · rw [e, zu_id, if_pos rfl]
          exact hx
        · rw [zu_ne (by omega)]
          exact i4 j (by omega)
    rw [if_neg (by rw [zi_le (by omega) (by omega)]; omega), if_neg (by rw [show (200 : Int32) = zi 200 from rfl, zi_le (by omega) (by omega)]; omega), zi_rd (by omega) (by omega), Option.bind_some, cq_28 i3 hkN, zKp_c (by decide), zi_ri (by omega) (by omega), zi_succ]
    by_cases c : M.1 195 k = 0
    · rw [if_pos c, Option.bind_some, zi_wr (by omega) (by omega), Option.bind_some]
      exact fin _ (by unfold zCd; rw [if_pos c])
    · rw [if_neg c]
      by_cases c1 : M.1 195 k = 1
      · rw [if_pos c1, Option.bind_some, zi_rd (by omega) (by omega), Option.bind_some, cq_29 i3 hkN, zKp_c (by decide), zi_wr (by omega) (by omega), Option.bind_some]
        exact fin _ (by unfold zCd; rw [if_neg c, if_pos c1])
      · rw [if_neg c1, Option.bind_some, zi_wr (by omega) (by omega), Option.bind_some]
        exact fin _ (by unfold zCd; rw [if_neg c, if_neg c1])
  · have hkl := Nat.le_antisymm hk hge
    subst hkl
    rw [if_pos (Int32.le_refl _)]
    exact zs_ret ⟨i2, i3, i4⟩
