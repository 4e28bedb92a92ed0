/-! a day ends: the class -/
/-- k families told, in the day that ends -/
def zLp (P : yb_S) (k : Nat) : yb_S := ((zKp P k).1, fun id t => if id = 392 + 1 * nD P then (if t = 4 then (zGa P k).toInt64 else if t < 4 then (zHd P t k).toInt64 else P.2 id t) else if id = 181 ∧ t < nT P then P.2 181 t + (zGt P t k).toInt64 else P.2 id t)
def zDp (P : yb_S) : yb_S := yb_pI (zLp P (nF P)) 176 7 (zi (nD P + 1))
def zDy (M : yb_S) : yb_S := zDp (zNi (zEmP (zLv M) M) (nF (zEmP (zLv M) M)))
theorem zKp_h {P : yb_S} {k : Nat} : ∀ id, id < 367 → (zKp P k).1 id = P.1 id := fun _ h => zKp_c h
theorem zDp_eq {P : yb_S} (h9 : nD P < 200) : yb_pI (yb_pL (yb_pL (yb_pL (yb_pL (yb_pL (zKs (zKp P (nF P)) (nT (zKp P (nF P)))) (392 + 1 * nD P) 0 (zHd P 0 (nF P)).toInt64) (392 + 1 * nD P) 1 (zHd P 1 (nF P)).toInt64) (392 + 1 * nD P) 2 (zHd P 2 (nF P)).toInt64) (392 + 1 * nD P) 3 (zHd P 3 (nF P)).toInt64) (392 + 1 * nD P) 4 (zGa P (nF P)).toInt64) 176 7 (zi (nD P + 1)) = zDp P := by
  unfold zDp
  congr 1
  obtain ⟨n1, n2, n3, n4, n5, n6⟩ := zN_c (N := zKp P (nF P)) (M := P) zKp_h
  apply Prod.ext
  · rfl
  · funext id t
    have eR : (zLp P (nF P)).2 id t = (if id = 392 + 1 * nD P then (if t = 4 then (zGa P (nF P)).toInt64 else if t < 4 then (zHd P t (nF P)).toInt64 else P.2 id t) else if id = 181 ∧ t < nT P then P.2 181 t + (zGt P t (nF P)).toInt64 else P.2 id t) := rfl
    have eK : (zKs (zKp P (nF P)) (nT (zKp P (nF P)))).2 id t = (if id = 181 ∧ t < nT P then P.2 181 t + (zGt P t (nF P)).toInt64 else P.2 id t) := by
      show (if id = 181 ∧ t < nT (zKp P (nF P)) then (zKp P (nF P)).2 181 t + (zGt (zKp P (nF P)) t (nF (zKp P (nF P)))).toInt64 else (zKp P (nF P)).2 id t) = _
      rw [n5, n1, zGt_c (M := P) zKp_h]
      rfl
    rw [eR]
    by_cases e : id = 392 + 1 * nD P
    · rw [if_pos e, e]
      simp only [zu_idL]
      by_cases t4 : t = 4
      · rw [if_pos t4, if_pos t4]
      · rw [if_neg t4, if_neg t4]
        by_cases t3 : t = 3
        · subst t3
          rw [if_pos rfl, if_pos (by decide)]
        · rw [if_neg t3]
          by_cases t2 : t = 2
          · subst t2
            rw [if_pos rfl, if_pos (by decide)]
          · rw [if_neg t2]
            by_cases t1 : t = 1
            · subst t1
              rw [if_pos rfl, if_pos (by decide)]
            · rw [if_neg t1]
              by_cases t0 : t = 0
              · subst t0
                rw [if_pos rfl, if_pos (by decide)]
              · rw [if_neg t0, if_neg (by omega), ← e, eK, if_neg (by omega)]
    · rw [if_neg e, zu_neL e, zu_neL e, zu_neL e, zu_neL e, zu_neL e, eK]
theorem zo_day {M m s : yb_S} (hW0 : zW M) (hA0 : zA M m s) (hd : nD M < 200) : zs_P (f_X11_closeDay s) (fun u => zW (zDy M) ∧ zA (zDy M) m u) := by
  unfold f_X11_closeDay
  refine zs_bind (zo_empty hW0 hA0) fun u1 h1 => ?_
  refine zs_bind (zo_nights h1.1 h1.2) fun u2 h2 => ?_
  have eD : nD (zNi (zEmP (zLv M) M) (nF (zEmP (zLv M) M))) = nD M := by
    unfold nD
    rw [zNi_c (by decide), zEmP_c (by decide) (by decide)]
  unfold zDy
  generalize hP : zNi (zEmP (zLv M) M) (nF (zEmP (zLv M) M)) = P at *
  obtain ⟨hW, hA⟩ := h2
  have h8 := zw_F8 hW
  have h10 := zw_T8 hW
  have hD : nD P < 200 := by omega
  refine zs_bind (zo_keepF hW hA hD) fun u3 h3 => ?_
  obtain ⟨n1, n2, n3, n4, n5, n6⟩ := zN_c (N := zKp P (nF P)) (M := P) zKp_h
  refine zs_bind (zo_keepS h3.1 h3.2.1 (by rw [n6]; exact hD) (fun j hj => by
    rw [n1] at hj
    rw [n6, zCd_c (M := P) zKp_h]
    exact h3.2.2 j hj)) fun u h4 => ?_
  obtain ⟨g1, g2, g3, g4⟩ := h4
  rw [n1, n6] at g3
  rw [n1, n5, n6] at g4
  have g3' : ∀ j, j < nF P → u.1 (139 + 1 * j) (nD P) = zCd P j := fun j hj => by
    rw [g3 j hj, zCd_c (M := P) zKp_h]
  have g4' : ∀ j, j < nT P → u.1 (164 + 1 * j) (nD P) = zGt P j (nF P) := fun j hj => by
    rw [g4 j hj, zGt_c (M := P) zKp_h]
  rw [Option.bind_some, cq_D g2]
  have e7 : (zKs (zKp P (nF P)) (nT (zKp P (nF P)))).1 176 7 = zi (nD P) := by
    show (zKp P (nF P)).1 176 7 = _
    rw [zKp_c (by decide)]
    exact zw_D hW
  rw [e7, zi_succ]
  have eQ : nD (zKs (zKp P (nF P)) (nT (zKp P (nF P)))) = nD P := n6
  have eF : nF (zKs (zKp P (nF P)) (nT (zKp P (nF P)))) = nF P := n1
  have eT : nT (zKs (zKp P (nF P)) (nT (zKp P (nF P)))) = nT P := n5
  have ecode : ∀ f, f < nF P → (zKs (zKp P (nF P)) (nT (zKp P (nF P)))).1 (367 + f % 24) (nD P) = zCd P f := fun f hf => by
    show (if 367 ≤ 367 + f % 24 ∧ 367 + f % 24 < 367 + nF P ∧ nD P = nD P then zCd P (367 + f % 24 - 367) else P.1 (367 + f % 24) (nD P)) = _
    rw [if_pos ⟨by omega, by omega, rfl⟩, show 367 + f % 24 - 367 = f by omega]
  have hk := zk_now (o := zO u) (M := zKs (zKp P (nF P)) (nT (zKp P (nF P)))) (dd := nD P) (x0 := (zHd P 0 (nF P)).toInt64) (x1 := (zHd P 1 (nF P)).toInt64) (x2 := (zHd P 2 (nF P)).toInt64) (x3 := (zHd P 3 (nF P)).toInt64) (x4 := (zGa P (nF P)).toInt64) eQ.symm hD
    (by rw [zDayHd (N := zKs (zKp P (nF P)) (nT (zKp P (nF P)))) hW rfl]) (by rw [zDayHd (N := zKs (zKp P (nF P)) (nT (zKp P (nF P)))) hW rfl]) (by rw [zDayHd (N := zKs (zKp P (nF P)) (nT (zKp P (nF P)))) hW rfl]) (by rw [zDayHd (N := zKs (zKp P (nF P)) (nT (zKp P (nF P)))) hW rfl])
    (by
      obtain ⟨n, hn, e⟩ := zGa_b (M := P) (k := nF P)
      exact ⟨n, by omega, by rw [e]⟩)
    (fun f hf => by
      rw [eF] at hf
      rw [ecode f hf]
      exact (zCd_ok hW hf).1)
    (fun f hf => by
      rw [eF] at hf
      rw [ecode f hf, zO_rd (zeO_t (by omega)), show 139 + f % 24 = 139 + 1 * f by omega]
      exact g3' f hf)
    (by
      rw [← zGt_sum hW (Nat.le_refl _)]
      refine congrArg Int32.toInt64 (zsum_congr fun t ht => ?_)
      rcases Nat.lt_or_ge t (nT P) with hlt | hge
      · rw [zO_rd (zeO_t (by omega)), show 164 + t % 8 = 164 + 1 * t by omega]
        exact g4' t hlt
      · rw [zGt_0 hW hge ht (Nat.le_refl _)]
        exact g2.1.2.2.2.2.2.2.2.2.2.2.2.1.2.2 (nD P) (by rw [eQ]; exact Nat.le_refl _) t ht (by rw [eT]; exact hge))
    g1 g2.1
  rw [zDp_eq hD] at hk
  refine zs_ret ⟨hk.1, ?_, ?_⟩
  · rw [zO_e (by omega)]
    exact hk.2
  · rw [zHm_pI (by omega)]
    exact g2.2
