/-! a day: the class keeps the sums -/
def zKs (M : yb_S) (k : Nat) : yb_S := (M.1, fun id t => if id = 181 ∧ t < k then M.2 181 t + (zGt M t (nF M)).toInt64 else M.2 id t)
theorem zKs_0 {M : yb_S} : zKs M 0 = M := by
  apply Prod.ext
  · rfl
  · funext id t
    exact if_neg (fun q => absurd q.2 (Nat.not_lt_zero _))
theorem zKs_s {M : yb_S} {k : Nat} : yb_pL (zKs M k) 181 k (M.2 181 k + (zGt M k (nF M)).toInt64) = zKs M (k + 1) := by
  apply Prod.ext
  · rfl
  · funext id t
    rw [zu_rlL]
    have e0 : (zKs M k).2 id t = (if id = 181 ∧ t < k then M.2 181 t + (zGt M t (nF M)).toInt64 else M.2 id t) := rfl
    show _ = (if id = 181 ∧ t < k + 1 then M.2 181 t + (zGt M t (nF M)).toInt64 else M.2 id t)
    rw [e0]
    by_cases e : id = 181
    · rw [if_pos e]
      by_cases e2 : t = k
      · rw [if_pos e2, if_pos ⟨e, by omega⟩, e2]
      · rw [if_neg e2]
        by_cases e3 : t < k
        · rw [if_pos ⟨e, e3⟩, if_pos ⟨e, by omega⟩]
        · rw [if_neg (fun q => e3 q.2), if_neg (fun q => e3 (by omega))]
    · rw [if_neg e, if_neg (fun q => e q.1), if_neg (fun q => e q.1)]
theorem zKs_k {M : yb_S} {k : Nat} : (zKs M k).2 181 k = M.2 181 k := if_neg (fun q => absurd q.2 (Nat.lt_irrefl _))

theorem zNg_c {N M : yb_S} (h : ∀ id, id < 367 → N.1 id = M.1 id) {f : Nat} : zNg N f = zNg M f := by
  have e : zNh N f (N.1 196 f).toNatClampNeg = zNh M f (M.1 196 f).toNatClampNeg := by
    rw [zNh_c h, h 196 (by decide)]
  unfold zNg
  rw [zTell_c h, e]
theorem zGt_c {N M : yb_S} (h : ∀ id, id < 367 → N.1 id = M.1 id) {t k : Nat} : zGt N t k = zGt M t k := by
  unfold zGt
  simp only [zTown_c h, zNg_c h]
theorem zo_keepS {M m s : yb_S} (hW : zW M) (hA : zA M m s) (hd : nD M < 200) (hrow : ∀ j, j < nF M → s.1 (139 + 1 * j) (nD M) = zCd M j) : zs_P (f_X0_keepSums_1 s) (fun u => zW (zKs M (nT M)) ∧ zA (zKs M (nT M)) m u ∧ (∀ j, j < nF M → u.1 (139 + 1 * j) (nD M) = zCd M j) ∧ ∀ j, j < nT M → u.1 (164 + 1 * j) (nD M) = zGt M j (nF M)) := by
  have h8 := zw_F8 hW
  have h10 := zw_T8 hW
  unfold f_X0_keepSums_1 l_X0_keepSums_1_7
  rw [cq_D hA, zw_D hW]
  refine zs_up (fun k a => a.1 = zi k ∧ zW (zKs M k) ∧ zA (zKs M k) m a.2 ∧ (∀ j, j < nF M → a.2.1 (139 + 1 * j) (nD M) = zCd M j) ∧ ∀ j, j < k → a.2.1 (164 + 1 * j) (nD M) = zGt M j (nF M)) (nT M) ?_ yb_N 0 _ (Nat.zero_le _) (by unfold yb_N; omega) (by
    rw [zKs_0]
    exact ⟨rfl, hW, hA, hrow, fun j hj => absurd hj (Nat.not_lt_zero _)⟩)
  rintro k ⟨x, u⟩ rc hk ⟨i1, i2, i3, i4, i5⟩ hn
  dsimp only at i1 i2 i3 i4 i5
  subst i1
  show zs_P (f_X0_keepSums_1_7 (fun x1 s => rc (x1, s)) (zi (nD M)) (zi k) u) _
  unfold f_X0_keepSums_1_7
  have eT : nT (zKs M k) = nT M := rfl
  have eF : nF (zKs M k) = nF M := rfl
  have eD : nD (zKs M k) = nD M := rfl
  rw [cq_T i3, zw_T i2, eT]
  rcases Nat.lt_or_ge k (nT M) with hlt | hge
  · rw [if_neg (by rw [zi_le (by omega) (by omega)]; omega), if_neg (by rw [show (200 : Int32) = zi 200 from rfl, zi_le (by omega) (by omega)]; omega), zi_ri (by omega) (by omega), Option.bind_some]
    refine zs_bind (zo_sumG i2 i3 (t := k) hlt) fun v hv => ?_
    have hAv := zfo_A hv.2 i3
    rw [eF, zGt_c (N := zKs M k) (M := M) (fun id _ => rfl)] at hv
    rw [hv.1, zi_wr (by omega) (by omega), Option.bind_some, zi_rl (by omega) (by omega), Option.bind_some, Option.bind_some, zi_rd (by omega) (by omega), Option.bind_some, zu_eq, zu_rl, cq_12 hAv (by omega), zKs_k, zi_wl (by omega) (by omega), Option.bind_some, zi_succ]
    have hk2 := zk_sum (M := zKs M k) (x := zGt M k (nF M)) (y := M.2 181 k + (zGt M k (nF M)).toInt64) (t := k) (d := nD M) hlt (Nat.le_refl _) i2 hAv.1
    rw [zKs_s] at hk2
    refine hn hlt _ ⟨rfl, hk2.1, ⟨?_, ?_⟩, fun j hj => ?_, fun j hj => ?_⟩
    · dsimp only
      rw [zO_Le (by omega), zO_e (by omega)]
      exact hk2.2
    · dsimp only
      rw [zHm_pL (by omega), zHm_pI (by omega)]
      exact hAv.2
    · dsimp only
      rw [zu_rdL, zu_ne (by omega), hv.2.1 _ (by omega) (by omega)]
      exact i4 j hj
    · dsimp only
      rw [zu_rdL]
      by_cases e : j = k
      · rw [e, zu_id, if_pos rfl]
      · rw [zu_ne (by omega), hv.2.1 _ (by omega) (by omega)]
        exact i5 j (by omega)
  · have hkl := Nat.le_antisymm hk hge
    subst hkl
    rw [if_pos (Int32.le_refl _)]
    exact zs_ret ⟨i2, i3, i4, i5⟩
