/-! a day ends: the reference, family by family -/
theorem zm_fams {P o s : yb_S} (hW : zW P) (hQ : zQ (zLp P 0) o s) (h9 : nD P < 200) : zs_P (l_X12_day_110 yb_N 0 s) (fun u => zQ (zDp P) o u) := by
  have h8 := zw_F8 hW
  have hH8 := zw_H8 hW
  have h10 := zw_T8 hW
  unfold l_X12_day_110
  refine zs_up (fun k a => a.1 = zi k ∧ zQ (zLp P k) o a.2) (nF P) ?_ yb_N 0 _ (Nat.zero_le _) (by unfold yb_N; omega) (by exact ⟨rfl, hQ⟩)
  rintro k ⟨x, u⟩ rc hk ⟨i1, i2⟩ hn
  dsimp only at i1 i2
  subst i1
  show zs_P (f_X12_day_110 (fun x1 s => rc (x1, s)) (zi k) u) _
  unfold f_X12_day_110
  have hnr := zLp_n (P := P) h9 (k := k) (by omega)
  obtain ⟨n1, n2, n3, n4, n5, n6⟩ := zN_c (N := zLp P k) (M := P) hnr.1
  have hWL := zNr_W hW hnr
  rw [zqk i2 (by omega), zw_F hWL, n1]
  rcases Nat.lt_or_ge k (nF P) with hlt | hge
  · have e7 : u.1 176 7 = zi (nD P) := by rw [zqk i2 (by omega), zw_D hWL, n6]
    have e195 : u.1 195 k = P.1 195 k := by rw [zq i2 (by omega), hnr.1 195 (by decide)]
    have e196 : u.1 196 k = P.1 196 k := by rw [zq i2 (by omega), hnr.1 196 (by decide)]
    have key : zs_P (j_X12_day_163 (fun x1 s => rc (x1, s)) (zi k) (zCd P k) (zi (nD P)) (367 + 1 * k) u) (fun u => zQ (zDp P) o u) := by
      unfold j_X12_day_163 j_X12_day_273
      have r1 := zNr_i hnr (id := 367 + 1 * k) (x := zCd P k) (by omega) (by omega)
      have q1 := zQ_e (id := 367 + 1 * k) (k := nD P) (x := zCd P k) i2 (by omega)
      rw [zi_wr (by omega) (by omega), Option.bind_some, zqk q1 (by omega), r1.1 176 (by decide), zw_D hW, zi_ri (by omega) (by omega), Option.bind_some, zi_rd (by omega) (by omega), Option.bind_some, zq q1 (by omega), r1.1 195 (by decide)]
      obtain ⟨q, hq, eq⟩ : ∃ q, q < 3 ∧ P.1 195 k = zi q := by
        rcases (zw_f hW hlt).2.2.1 with e | e | e
        · exact ⟨0, by decide, e⟩
        · exact ⟨1, by decide, e⟩
        · exact ⟨2, by decide, e⟩
      rw [eq, zi_rl (by omega) (by omega), Option.bind_some, zql q1 (by omega), zi_rd (by omega) (by omega), Option.bind_some, zq q1 (by omega), r1.1 189 (by decide), zi_wl (by omega) (by omega), Option.bind_some]
      have r2 := zNr_L r1 (k := q) (x := (yb_pI (zLp P k) (367 + 1 * k) (nD P) (zCd P k)).2 (392 + 1 * nD P) q + (P.1 189 k).toInt64)
      have q2 := zQ_eL (id := 392 + 1 * nD P) (k := q) (x := (yb_pI (zLp P k) (367 + 1 * k) (nD P) (zCd P k)).2 (392 + 1 * nD P) q + (P.1 189 k).toInt64) q1 (by omega)
      generalize hx : (yb_pI (zLp P k) (367 + 1 * k) (nD P) (zCd P k)).2 (392 + 1 * nD P) q + (P.1 189 k).toInt64 = xa at *
      rw [zqk q2 (by omega), r2.1 176 (by decide), zw_D hW, zi_ri (by omega) (by omega), Option.bind_some, show (3 : Int32) = zi 3 from rfl, zi_rl (by omega) (by omega), Option.bind_some, zql q2 (by omega), zi_rd (by omega) (by omega), Option.bind_some, zq q2 (by omega), r2.1 189 (by decide), zi_wl (by omega) (by omega), Option.bind_some]
      have r3 := zNr_L r2 (k := 3) (x := (yb_pL (yb_pI (zLp P k) (367 + 1 * k) (nD P) (zCd P k)) (392 + 1 * nD P) q xa).2 (392 + 1 * nD P) 3 + (P.1 189 k).toInt64)
      have q3 := zQ_eL (id := 392 + 1 * nD P) (k := 3) (x := (yb_pL (yb_pI (zLp P k) (367 + 1 * k) (nD P) (zCd P k)) (392 + 1 * nD P) q xa).2 (392 + 1 * nD P) 3 + (P.1 189 k).toInt64) q2 (by omega)
      have hxb : (yb_pL (yb_pI (zLp P k) (367 + 1 * k) (nD P) (zCd P k)) (392 + 1 * nD P) q xa).2 (392 + 1 * nD P) 3 + (P.1 189 k).toInt64 = (zLp P k).2 (392 + 1 * nD P) 3 + (P.1 189 k).toInt64 := by
        rw [zu_idL, if_neg (by omega), zu_rl]
      rw [hxb] at q3 r3 ⊢
      rw [zu_rl] at hx
      have hW3 := zNr_W hW r3
      obtain ⟨m1, m2, m3, m4, m5, m6⟩ := zN_c (N := yb_pL (yb_pL (yb_pI (zLp P k) (367 + 1 * k) (nD P) (zCd P k)) (392 + 1 * nD P) q xa) (392 + 1 * nD P) 3 ((zLp P k).2 (392 + 1 * nD P) 3 + (P.1 189 k).toInt64)) (M := P) r3.1
      rw [zm_isHoused hW3 q3 (by rw [m1]; exact hlt), Option.bind_some, r3.1 195 (by decide), eq]
      by_cases c1 : q = 1
      · subst c1
        rw [show (zi 1 == 1) = true from rfl, show zb true = 1 from rfl, if_neg (by decide)]
        obtain ⟨h, hh, eh⟩ : ∃ h, h < nH P ∧ P.1 196 k = zi h := by
          rcases (zw_f hW hlt).2.2.2.1 with ⟨-, h, hh, e⟩ | ⟨q, -⟩
          · exact ⟨h, hh, e⟩
          · exact absurd eq q
        obtain ⟨w, hw, ew⟩ : ∃ w, w < nT P ∧ zTown P k = zi w := by
          rcases zTown_in hW hlt with ⟨-, h1, -⟩ | ⟨t, ht, e, -⟩
          · exact absurd eq h1
          · exact ⟨t, ht, e⟩
        rw [zi_rd (by omega) (by omega), Option.bind_some, zq q3 (by omega), r3.1 196 (by decide), eh]
        refine zs_bind (zm_asksOf_ hW3 q3 (by rw [m1]; exact hlt) (by rw [m2]; exact hh)) fun v hv => ?_
        have q4 := zG_Q hv.2 q3
        refine zs_bind (zm_tells (c := 3) hW3 q4 (by decide) hv.1) fun z hz => ?_
        have q5 := zG_Q (zfs_G hz.2) q4
        rw [zm_within, Option.bind_some, zm_townFor hW3 q5 (by rw [m1]; exact hlt), Option.bind_some, zTown_c r3.1, ew, hz.1, zTell_c r3.1, zNh_c r3.1]
        have eg : zwi (zTell P 3 (zNh P k h)) = zNg P k := by
          unfold zNg
          rw [eh, zi_tn (by omega)]
        rw [eg, zi_rl (by omega) (by omega), Option.bind_some, zql q5 (by omega), zi_wl (by omega) (by omega), Option.bind_some]
        have hxc : (yb_pL (yb_pL (yb_pI (zLp P k) (367 + 1 * k) (nD P) (zCd P k)) (392 + 1 * nD P) 1 xa) (392 + 1 * nD P) 3 ((zLp P k).2 (392 + 1 * nD P) 3 + (P.1 189 k).toInt64)).2 181 w = (zLp P k).2 181 w := by
          rw [zu_neL (by omega), zu_neL (by omega), zu_rl]
        rw [hxc]
        have r6 := zNr_t r3 (k := w) (x := (zLp P k).2 181 w + (zNg P k).toInt64) hw
        have q6 := zQ_eL (id := 181) (k := w) (x := (zLp P k).2 181 w + (zNg P k).toInt64) q5 (by omega)
        rw [zqk q6 (by omega), r6.1 176 (by decide), zw_D hW, zi_ri (by omega) (by omega), Option.bind_some, show (4 : Int32) = zi 4 from rfl, zi_rl (by omega) (by omega), Option.bind_some, zql q6 (by omega), zi_wl (by omega) (by omega), Option.bind_some]
        have hxd : (yb_pL (yb_pL (yb_pL (yb_pI (zLp P k) (367 + 1 * k) (nD P) (zCd P k)) (392 + 1 * nD P) 1 xa) (392 + 1 * nD P) 3 ((zLp P k).2 (392 + 1 * nD P) 3 + (P.1 189 k).toInt64)) 181 w ((zLp P k).2 181 w + (zNg P k).toInt64)).2 (392 + 1 * nD P) 4 = (zLp P k).2 (392 + 1 * nD P) 4 := by
          rw [zu_neL (by omega), zu_idL, if_neg (by decide), zu_idL, if_neg (by decide), zu_rl]
        rw [hxd, zi_succ]
        have q7 := zQ_eL (id := 392 + 1 * nD P) (k := 4) (x := (zLp P k).2 (392 + 1 * nD P) 4 + (zNg P k).toInt64) q6 (by omega)
        rw [zLp_h hW h9 hlt eq hw ew hx.symm rfl rfl rfl] at q7
        exact hn hlt _ ⟨rfl, q7⟩
      · have : (zi q == 1) = false := beq_eq_false_iff_ne.mpr (by
          rw [show (1 : Int32) = zi 1 from rfl, Ne, zi_inj (by omega) (by omega)]
          exact c1)
        rw [this, show zb false = 0 from rfl, if_pos rfl, zi_succ]
        rw [zLp_s hW h9 hlt hq eq hx.symm rfl c1] at q3
        exact hn hlt _ ⟨rfl, q3⟩
    rw [if_neg (by rw [zi_le (by omega) (by omega)]; omega), zi_ri (by omega) (by omega), Option.bind_some, zi_rd (by omega) (by omega), Option.bind_some, e195, e7]
    have ec : zCd P k = if P.1 195 k = 0 then 100 else if P.1 195 k = 1 then P.1 196 k else 101 := rfl
    rcases (zw_f hW hlt).2.2.1 with e | e | e
    · rw [e, if_pos rfl] at ec
      rw [e, if_pos rfl, ← ec]
      exact key
    · rw [e, if_neg (by decide), if_pos rfl] at ec
      rw [e, if_neg (by decide), Option.bind_some, if_neg (by decide), zi_rd (by omega) (by omega), Option.bind_some, e196, ← ec]
      exact key
    · rw [e, if_neg (by decide), if_neg (by decide)] at ec
      rw [e, if_neg (by decide), Option.bind_some, if_pos rfl, ← ec]
      exact key
  · have hkl := Nat.le_antisymm hk hge
    subst hkl
    rw [if_pos (Int32.le_refl _), Option.bind_some]
    refine zs_ret ?_
    rw [zqk i2 (by omega), zw_D hWL, n6, zi_succ]
    exact zQ_ek i2 (by omega)
theorem zm_day {M o s : yb_S} (hW0 : zW M) (hQ0 : zQ M o s) (hd : nD M < 200) : zs_P (f_X12_day s) (fun u => zQ (zDy M) o u) := by
  refine zm_empty hW0 hQ0 fun u1 w1 q1 => ?_
  refine zm_nights w1 q1 fun u2 w2 q2 => ?_
  have eD : nD (zNi (zEmP (zLv M) M) (nF (zEmP (zLv M) M))) = nD M := by
    unfold nD
    rw [zNi_c (by decide), zEmP_c (by decide) (by decide)]
  exact zm_zero w2 q2 (by omega) fun u3 q3 => zm_fams w2 q3 (by omega)
/-! go -/
def zDys (M : yb_S) : Nat → yb_S
  | 0 => M
  | n + 1 => if nD (zDys M n) < 200 then zDy (zDys M n) else zDys M n
theorem zDys_stop {M : yb_S} {k : Nat} (h : 200 ≤ nD (zDys M k)) : ∀ {j : Nat}, zDys M (k + j) = zDys M k
  | 0 => rfl
  | j + 1 => by
    show (if nD (zDys M (k + j)) < 200 then zDy (zDys M (k + j)) else zDys M (k + j)) = _
    rw [zDys_stop h (j := j), if_neg (by omega)]
theorem zDp_58 {P : yb_S} : (zDp P).1 176 58 = P.1 176 58 := by
  unfold zDp
  rw [zu_id, if_neg (by decide)]
  show (zKp P (nF P)).1 176 58 = _
  rw [zKp_c (by decide)]
theorem zDy_58 {M : yb_S} : (zDy M).1 176 58 = M.1 176 58 := by
  unfold zDy
  rw [zDp_58, zNi_c (by decide), zEmP_c (by decide) (by decide)]
theorem zDys_58 {M : yb_S} : ∀ {n : Nat}, (zDys M n).1 176 58 = M.1 176 58
  | 0 => rfl
  | n + 1 => by
    show (if nD (zDys M n) < 200 then zDy (zDys M n) else zDys M n).1 176 58 = _
    by_cases c : nD (zDys M n) < 200
    · rw [if_pos c, zDy_58, zDys_58 (n := n)]
    · rw [if_neg c, zDys_58 (n := n)]
theorem zDys_W {M m s : yb_S} (hW : zW M) (hA : zA M m s) : ∀ n, zW (zDys M n) ∧ ∃ u, zA (zDys M n) m u
  | 0 => ⟨hW, s, hA⟩
  | n + 1 => by
    obtain ⟨w, u, a⟩ := zDys_W hW hA n
    show zW (if nD (zDys M n) < 200 then zDy (zDys M n) else zDys M n) ∧ ∃ u, zA (if nD (zDys M n) < 200 then zDy (zDys M n) else zDys M n) m u
    by_cases c : nD (zDys M n) < 200
    · rw [if_pos c]
      obtain ⟨v, -, w2, a2⟩ := zo_day w a c
      exact ⟨w2, v, a2⟩
    · rw [if_neg c]
      exact ⟨w, u, a⟩
theorem ze_31 : ∀ (a1 : Int32) (s : yb_S), zInv s → ∃ (r : Int32) (s1 s2 : yb_S), f_X11_go a1 s = some (r, s1) ∧ f_X12_go a1 s1 = some (r, s2) ∧ zInv s2 := by
  intro a1 s h
  have hW := h.1
  by_cases hc : zin a1 41
  · obtain ⟨n, hn, rfl⟩ := hc
    have hWd := fun k => (zDys_W hW (M := zP s) (m := zHm s) (s := s) ⟨h.2.1, rfl⟩ k).1
    refine z_call h (zi (nD (zDys (zP s) n))) (zDys (zP s) n) (fun m t hA => ?_) (fun o t hQ => ?_) (hWd n) ?_
    · unfold f_X11_go l_X11_go_14
      rw [if_neg (by rw [zi_neg (by omega)]; exact id), if_pos (by rw [show (40 : Int32) = zi 40 from rfl, zi_le (by omega) (by omega)]; omega)]
      refine zs_up (fun k a => a.1 = zi k ∧ zA (zDys (zP s) k) m a.2) n ?_ yb_N 0 _ (Nat.zero_le _) (by unfold yb_N; omega) (by exact ⟨rfl, hA⟩)
      rintro k ⟨x, u⟩ rc hk ⟨i1, i2⟩ hnx
      dsimp only at i1 i2
      subst i1
      show zs_P (f_X11_go_14 (fun x2 s => rc (x2, s)) (zi n) (zi k) u) _
      unfold f_X11_go_14 j_X11_go_42
      rw [cq_D i2, zw_D (hWd k)]
      have hd8 := zw_D8 (hWd k)
      rcases Nat.lt_or_ge k n with hlt | hge
      · rw [if_neg (by rw [zi_le (by omega) (by omega)]; omega)]
        by_cases c : nD (zDys (zP s) k) < 200
        · rw [if_neg (by rw [show (200 : Int32) = zi 200 from rfl, zi_le (by omega) (by omega)]; omega), zi_succ]
          refine zs_bind (zo_day (hWd k) i2 c) fun v hv => ?_
          refine hnx hlt _ ⟨rfl, ?_⟩
          show zA (if nD (zDys (zP s) k) < 200 then zDy (zDys (zP s) k) else zDys (zP s) k) m v
          rw [if_pos c]
          exact hv.2
        · rw [if_pos (by rw [show (200 : Int32) = zi 200 from rfl, zi_le (by omega) (by omega)]; omega)]
          have e := zDys_stop (M := zP s) (k := k) (by omega) (j := n - k)
          rw [show k + (n - k) = n by omega] at e
          rw [e]
          exact zs_ret ⟨rfl, i2⟩
      · have hkl := Nat.le_antisymm hk hge
        subst hkl
        rw [if_pos (Int32.le_refl _)]
        exact zs_ret ⟨rfl, i2⟩
    · unfold f_X12_go l_X12_go_16
      rw [z_inZ (l := 0) (h := 40) (a := 0) (b := 40) (by decide) (by decide) (by omega) (by decide) (by decide), if_pos (by omega), if_neg (by decide)]
      refine zs_up (fun k a => a.1 = zi k ∧ zQ (zDys (zP s) k) o a.2) n ?_ yb_N 0 _ (Nat.zero_le _) (by unfold yb_N; omega) (by exact ⟨rfl, hQ⟩)
      rintro k ⟨x, u⟩ rc hk ⟨i1, i2⟩ hnx
      dsimp only at i1 i2
      subst i1
      show zs_P (f_X12_go_16 (fun x2 s => rc (x2, s)) (zi n) (zi k) u) _
      unfold f_X12_go_16 j_X12_go_41
      rw [zqk i2 (by omega), zw_D (hWd k)]
      have hd8 := zw_D8 (hWd k)
      rcases Nat.lt_or_ge k n with hlt | hge
      · rw [if_neg (by rw [zi_le (by omega) (by omega)]; omega)]
        by_cases c : nD (zDys (zP s) k) < 200
        · rw [if_neg (by rw [show (200 : Int32) = zi 200 from rfl, zi_le (by omega) (by omega)]; omega), zi_succ]
          refine zs_bind (zm_day (hWd k) i2 c) fun v hv => ?_
          refine hnx hlt _ ⟨rfl, ?_⟩
          show zQ (if nD (zDys (zP s) k) < 200 then zDy (zDys (zP s) k) else zDys (zP s) k) o v
          rw [if_pos c]
          exact hv
        · rw [if_pos (by rw [show (200 : Int32) = zi 200 from rfl, zi_le (by omega) (by omega)]; omega)]
          have e := zDys_stop (M := zP s) (k := k) (by omega) (j := n - k)
          rw [show k + (n - k) = n by omega] at e
          rw [e]
          exact zs_ret ⟨rfl, i2⟩
      · have hkl := Nat.le_antisymm hk hge
        subst hkl
        rw [if_pos (Int32.le_refl _)]
        exact zs_ret ⟨rfl, i2⟩
    · rw [zDys_58]
      exact z_b58 h
  · have hr : ¬ (0 ≤ a1 ∧ a1 ≤ 40) := by
      rintro ⟨q1, q2⟩
      rcases zi_cases a1 with q3 | ⟨k, hk, rfl⟩
      · exact absurd q1 (Int32.not_le.mpr q3)
      · rw [show (40 : Int32) = zi 40 from rfl, zi_le hk (by decide)] at q2
        exact hc ⟨k, by omega, rfl⟩
    refine z_call h (-1) (zP s) (fun m t hA => ?_) (fun o t hQ => ?_) hW (z_b58 h)
    · unfold f_X11_go
      by_cases c1 : a1 < 0
      · rw [if_pos c1]
        exact zs_ret ⟨rfl, hA⟩
      · rw [if_neg c1, if_neg (fun q => hr ⟨Int32.not_lt.mp c1, q⟩)]
        exact zs_ret ⟨rfl, hA⟩
    · unfold f_X12_go
      rw [z_in (l := 0) (h := 40) (lo := 0) (hi := 40) (by decide) (by decide), if_neg hr, if_pos rfl]
      exact zs_ret ⟨rfl, hQ⟩
