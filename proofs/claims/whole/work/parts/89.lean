/-! best: both -/
theorem zyex_some {M : yb_S} {F H : Nat → Nat} {nh : Nat} : ∀ (r i : Nat) (P : yb_S) (l : Nat → Int32) (x y z : Nat) (B : zyB), ∃ a b c v, zyex M F H nh r i P l x y z B = some (a, b, c, v)
  | 0, i, P, l, x, y, z, B => by
    show ∃ a b c v, cond (zyb x y z B) (some (x, y, z, l)) B = some (a, b, c, v)
    cases B with
    | none => exact ⟨x, y, z, l, rfl⟩
    | some q =>
      obtain ⟨a, b, c, v⟩ := q
      cases zyb x y z (some (a, b, c, v))
      · exact ⟨a, b, c, v, rfl⟩
      · exact ⟨x, y, z, l, rfl⟩
  | r + 1, i, P, l, x, y, z, B => by
    unfold zyex
    exact zyex_some r (i + 1) P _ x y z _
/-- the best of all, told by the picture -/
def zyBB (M : yb_S) (F H : Nat → Nat) (n nh : Nat) : zyB := zyex M F H nh n 0 (zyO M F n) (fun _ => 0) 0 0 0 none
def zyAn (B : zyB) (k : Int32) : Int32 := match B with
  | none => 0
  | some (a, _, _, l) => if k = -1 then zi a else l k.toNatClampNeg
section
variable {M m : yb_S} {F H : Nat → Nat} {n nh : Nat}
theorem zySt_st (hW : zW M) (hF : zyFH M F H n nh) (h2 : ∀ k, k < n → M.1 195 (F k) ≠ 2) {k : Nat} (hk : k < n) : (M.1 195 (F k) = 0 ∧ M.1 196 (F k) = -1) ∨ ∃ h, h < nH M ∧ M.1 195 (F k) = 1 ∧ M.1 196 (F k) = zi h := by
  rcases (zw_f hW (hF.2.2.1 k hk)).2.2.2.1 with ⟨q1, h, hh, q2⟩ | ⟨q1, q2⟩
  · exact Or.inr ⟨h, hh, q1, q2⟩
  · rcases (zw_f hW (hF.2.2.1 k hk)).2.2.1 with e | e | e
    · exact Or.inl ⟨e, q2⟩
    · exact absurd e q1
    · exact absurd e (h2 k hk)
theorem zo_search {u : yb_S} (hW : zW M) (hF : zyFH M F H n nh) (hn0 : 0 < n) (h2 : ∀ k, k < n → M.1 195 (F k) ≠ 2) (hA : zA M m u) (h1 : u.1 128 1 = zi n) (h6 : u.1 128 6 = zbits (zyc F n) (nF M)) (h7 : u.1 128 7 = zi nh) (h130 : ∀ k, k < n → u.1 130 k = zi (F k)) (h131 : ∀ j, j < nh → u.1 131 j = zi (H j)) : zs_P (f_X1_search u) (fun v => zA M m v ∧ zyBc n (zyBB M F H n nh) v) := by
  have hn6 := hF.1
  have h8 := zw_F8 hW
  have h24 := zw_H8 hW
  have h10 := zw_T8 hW
  unfold f_X1_search l_X1_search_2
  refine zs_up (fun k a => a.1 = zi k ∧ zW (zyO M F k) ∧ zA (zyO M F k) m a.2 ∧ (∀ id j, 128 ≤ id → id < 137 → id ≠ 132 → a.2.1 id j = u.1 id j) ∧ ∀ j, j < k → a.2.1 132 j = M.1 196 (F j)) n ?_ yb_N 0 _ (Nat.zero_le _) (by unfold yb_N; omega) (by
    rw [zyO_0]
    exact ⟨rfl, hW, hA, fun _ _ _ _ _ => rfl, fun j hj => absurd hj (Nat.not_lt_zero _)⟩)
  rintro k ⟨x, v⟩ rc hk ⟨i1, i2, i3, i4, i5⟩ hnx
  dsimp only at i1 i2 i3 i4 i5
  subst i1
  show zs_P (f_X1_search_2 (fun x1 s => rc (x1, s)) (zi k) v) _
  unfold f_X1_search_2
  rw [i4 128 1 (by omega) (by omega) (by omega), h1]
  rcases Nat.lt_or_ge k n with hlt | hge
  · have hfk := hF.2.2.1 k hlt
    have eN : nF (zyO M F k) = nF M := zyE_N.1
    have w1 := zA_w i3 (id := 132) (k := k) (x := M.1 196 (F k)) (by omega)
    have w2 : (yb_pI v 132 k (M.1 196 (F k))).1 130 k = zi (F k) := by
      rw [zu_ne (by decide), i4 130 k (by omega) (by omega) (by omega)]
      exact h130 k hlt
    rw [if_neg (by rw [zi_le (by omega) (by omega)]; omega), zi_rd (by omega) (by omega), Option.bind_some, i4 130 k (by omega) (by omega) (by omega), h130 k hlt, zi_rd (by omega) (by omega), Option.bind_some, cq_29 i3 (by rw [eN]; exact hfk), zyO_k hF hlt, zi_wr (by omega) (by omega), Option.bind_some, zi_rd (by omega) (by omega), Option.bind_some, w2]
    have w3 : ∀ id j, 128 ≤ id → id < 137 → id ≠ 132 → (yb_pI v 132 k (M.1 196 (F k))).1 id j = u.1 id j := fun id j q1 q2 q3 => by
      rw [zu_ne q3]
      exact i4 id j q1 q2 q3
    have w4 : ∀ j, j < k + 1 → (yb_pI v 132 k (M.1 196 (F k))).1 132 j = M.1 196 (F j) := fun j hj => by
      by_cases e : j = k
      · rw [e, zu_eq]
      · rw [zu_col e]
        exact i5 j (by omega)
    generalize yb_pI v 132 k (M.1 196 (F k)) = w at *
    refine zs_bind (zs_fr (zo_unsettle i2 w1 (by rw [eN]; exact hfk) (by rw [zyO_k hF hlt]; exact h2 k hlt)) (Q := fun v => zyfr w v) (fun v e id a b => zfr_unsettle e (by omega))) fun z hz => ?_
    have hWn := zUn_W i2 (f := F k) (by rw [eN]; exact hfk)
    rw [zyO_s] at hz hWn
    rw [zi_succ]
    refine hnx hlt _ ⟨rfl, hWn, hz.1, fun id j q1 q2 q3 => ?_, fun j hj => ?_⟩
    · dsimp only
      rw [hz.2 id q1 q2]
      exact w3 id j q1 q2 q3
    · dsimp only
      rw [hz.2 132 (by omega) (by omega)]
      exact w4 j hj
  · have hkl := Nat.le_antisymm hk hge
    subst hkl
    rw [if_pos (Int32.le_refl _)]
    refine zs_bind (zo_countLeft hW hF hn0 i2 (fun id a b => zyE_c a b) i3 (by rw [i4 128 1 (by omega) (by omega) (by omega)]; exact h1) (by rw [i4 128 6 (by omega) (by omega) (by omega)]; exact h6) (by rw [i4 128 7 (by omega) (by omega) (by omega)]; exact h7) (fun j hj => by rw [i4 130 j (by omega) (by omega) (by omega)]; exact h130 j hj) (fun j hj => by rw [i4 131 j (by omega) (by omega) (by omega)]; exact h131 j hj) i5) fun z hz => ?_
    rw [Option.bind_some]
    have zA1 := zA_w hz.1 (id := 128) (k := 2) (x := -1) (by omega)
    have zS1 : zySt M F H k nh (yb_pI z 128 2 (-1)) := by
      obtain ⟨s1, s2, s3, s4, s5, s6, s7⟩ := hz.2
      refine ⟨?_, ?_, ?_, fun j hj => ?_, fun j hj => ?_, fun j hj => ?_, fun j hj => ?_⟩
      · rw [zu_id, if_neg (by decide)]; exact s1
      · rw [zu_id, if_neg (by decide)]; exact s2
      · rw [zu_id, if_neg (by decide)]; exact s3
      · rw [zu_ne (by decide)]; exact s4 j hj
      · rw [zu_ne (by decide)]; exact s5 j hj
      · rw [zu_ne (by decide), zu_ne (by decide), zu_ne (by decide)]; exact s6 j hj
      · rw [zu_ne (by decide)]; exact s7 j hj
    have zB1 : zyBc k none (yb_pI z 128 2 (-1)) := zu_eq
    have hw : ∀ j, j < nh → M.1 183 (H j) ≠ -1 := fun j hj => by
      obtain ⟨⟨t, ht, et⟩, -⟩ := zw_h hW (hF.2.2.2.2 j hj)
      rw [et, Ne, zi_m1 (by omega)]
      exact fun q => q
    refine zs_bind (zo_try (m := m) hW hF k 0 (by omega) 120 (by omega) (zyO M F k) (fun _ => 0) 0 0 0 none _ (zyO_P hF i2 _) (Nat.zero_le _) (Nat.zero_le _) (Nat.zero_le _) ⟨zA1, zS1, fun j hj => absurd hj (Nat.not_lt_zero _), zB1⟩) fun y hy => ?_
    obtain ⟨y1, y2, y3, y4⟩ := hy
    rw [zypr_ex hw] at y4
    have y4 : zyBc k (zyBB M F H k nh) y := y4
    unfold l_X1_search_71
    refine zs_up (fun j a => a.1 = zi j ∧ zW (zyI M F k j) ∧ zA (zyI M F k j) m a.2 ∧ zySt M F H k nh a.2 ∧ zyBc k (zyBB M F H k nh) a.2) k ?_ yb_N 0 _ (Nat.zero_le _) (by unfold yb_N; omega) (by
      rw [zyI_0]
      exact ⟨rfl, i2, y1, y2, y4⟩)
    rintro j ⟨x, a⟩ rd hj ⟨j1, j2, j3, j4, j5⟩ hm
    dsimp only at j1 j2 j3 j4 j5
    subst j1
    show zs_P (f_X1_search_71 (fun x1 s => rd (x1, s)) (zi j) a) _
    unfold f_X1_search_71 j_X1_search_108
    rw [j4.1]
    rcases Nat.lt_or_ge j k with hjl | hjg
    · rw [if_neg (by rw [zi_le (by omega) (by omega)]; omega), zi_rd (by omega) (by omega), Option.bind_some, j4.2.2.2.2.2.2 j hjl]
      have eN : nF (zyI M F k j) = nF M ∧ nH (zyI M F k j) = nH M := zyE_N
      rcases zySt_st hW hF h2 hjl with ⟨q1, q2⟩ | ⟨h, hh, q1, q2⟩
      · rw [q2, if_pos rfl, zi_succ]
        refine hm hjl _ ⟨rfl, ?_, ?_, j4, j5⟩
        · rw [← zyI_st q1 q2]
          exact j2
        · rw [← zyI_st q1 q2]
          exact j3
      · have hfj := hF.2.2.1 j hjl
        have p1 := zyI_k (M := M) hF hjl
        have p2 := zyI_fr hW hF hjl q1 q2
        rw [q2, if_neg (by rw [zi_m1 (by omega)]; exact fun q => q), zi_rd (by omega) (by omega), Option.bind_some, j4.2.2.2.1 j hjl, Option.bind_some]
        refine zs_bind (zs_fr (zo_settle j2 j3 (by rw [eN.1]; exact hfj) (by rw [eN.2]; exact hh) p1.1 p2) (Q := fun v => zyfr a v) (fun v e id c d => zfr_settle e (by omega))) fun b hb => ?_
        have hWs := zHs_W j2 (f := F j) (h := h) (by rw [eN.1]; exact hfj) (by rw [eN.2]; exact hh) p1.1 p2
        rw [zyI_hs q1 q2] at hb hWs
        rw [zi_succ]
        exact hm hjl _ ⟨rfl, hWs, hb.1, zyfr_S hb.2 j4, zyfr_B hb.2 j5⟩
    · have hjk := Nat.le_antisymm hj hjg
      subst hjk
      rw [if_pos (Int32.le_refl _)]
      rw [zyI_n] at j3
      exact zs_ret ⟨j3, j5⟩
theorem zyI_w {k : Nat} : yb_pI (yb_pI (zyI M F n k) 195 (F k) (M.1 195 (F k))) 196 (F k) (M.1 196 (F k)) = zyI M F n (k + 1) := by
  apply Prod.ext
  · funext id j
    rw [zu_rd, zu_rd]
    have e0 : ∀ p : Nat → Bool, (zEmP p M).1 id j = (if p j = true ∧ id = 195 then 0 else if p j = true ∧ id = 196 then -1 else M.1 id j) := fun _ => rfl
    show (if id = 196 then (if j = F k then M.1 196 (F k) else (if id = 195 then (if j = F k then M.1 195 (F k) else (zEmP _ M).1 id j) else (zEmP _ M).1 id j)) else (if id = 195 then (if j = F k then M.1 195 (F k) else (zEmP _ M).1 id j) else (zEmP _ M).1 id j)) = (zEmP (fun q => zyc F n q && !zyc F (k + 1) q) M).1 id j
    by_cases ej : j = F k
    · rw [e0 (fun q => zyc F n q && !zyc F (k + 1) q)]
      rw [ej, zyI_f, if_neg (show ¬ (false = true ∧ id = 195) from fun q => by cases q.1), if_neg (show ¬ (false = true ∧ id = 196) from fun q => by cases q.1)]
      by_cases e6 : id = 196
      · rw [if_pos e6, if_pos rfl, e6]
      · rw [if_neg e6]
        by_cases e5 : id = 195
        · rw [if_pos e5, if_pos rfl, e5]
        · rw [if_neg e5, ← ej, zEmP_c e5 e6]
    · have ee : (zEmP (fun q => zyc F n q && !zyc F k q) M).1 id j = (zEmP (fun q => zyc F n q && !zyc F (k + 1) q) M).1 id j := by
        rw [e0, e0, zyI_q ej]
      rw [if_neg ej, if_neg ej, ← ee]
      split
      · split <;> rfl
      · split <;> rfl
  · rfl
theorem zm_search {o u : yb_S} (hW : zW M) (hF : zyFH M F H n nh) (hn0 : 0 < n) (hQ : zQ M o u) (hu : zyqw F H n nh u) {a3 : Int32} (ha : a3 = -1 ∨ ∃ k, k < n ∧ a3 = zi k) : zs_P (l_X12_best_32 a3 yb_N (0 : Int32) u) (fun q => q.1 = zyAn (zyBB M F H n nh) a3 ∧ zQ M o q.2) := by
  have hn6 := hF.1
  have h8 := zw_F8 hW
  unfold l_X12_best_32
  refine zs_up (fun k a => a.1 = zi k ∧ zW (zyO M F k) ∧ zQ (zyO M F k) o a.2 ∧ zyqw F H n nh a.2 ∧ ∀ j, j < k → a.2.1 594 j = M.1 195 (F j) ∧ a.2.1 595 j = M.1 196 (F j)) n ?_ yb_N 0 _ (Nat.zero_le _) (by unfold yb_N; omega) (by
    rw [zyO_0]
    exact ⟨rfl, hW, hQ, hu, fun j hj => absurd hj (Nat.not_lt_zero _)⟩)
  rintro k ⟨x, v⟩ rc hk ⟨i1, i2, i3, i4, i5⟩ hnx
  dsimp only at i1 i2 i3 i4 i5
  subst i1
  show zs_P (f_X12_best_32 (fun x4 s => rc (x4, s)) a3 (zi k) v) _
  unfold f_X12_best_32
  rw [i4.1]
  rcases Nat.lt_or_ge k n with hlt | hge
  · have hfk := hF.2.2.1 k hlt
    have eN : nF (zyO M F k) = nF M := zyE_N.1
    have r1 : v.1 195 (F k) = M.1 195 (F k) := by rw [zq i3 (by omega), zyO_k hF hlt]
    have r2 : (yb_pI v 594 k (M.1 195 (F k))).1 592 k = zi (F k) := by rw [zu_ne (by decide)]; exact i4.2.2.1 k hlt
    have r3 : (yb_pI v 594 k (M.1 195 (F k))).1 196 (F k) = M.1 196 (F k) := by rw [zu_ne (by decide), zq i3 (by omega), zyO_k hF hlt]
    rw [if_neg (by rw [zi_le (by omega) (by omega)]; omega), zi_rd (by omega) (by omega), Option.bind_some, i4.2.2.1 k hlt, zi_rd (by omega) (by omega), Option.bind_some, r1, zi_wr (by omega) (by omega), Option.bind_some, zi_rd (by omega) (by omega), Option.bind_some, r2, zi_rd (by omega) (by omega), Option.bind_some, r3, zi_wr (by omega) (by omega), Option.bind_some]
    have q1 := zQ_w (zQ_w i3 (id := 594) (k := k) (x := M.1 195 (F k)) (by omega)) (id := 595) (k := k) (x := M.1 196 (F k)) (by omega)
    have f1 : ∀ id j, id ≠ 594 → id ≠ 595 → (yb_pI (yb_pI v 594 k (M.1 195 (F k))) 595 k (M.1 196 (F k))).1 id j = v.1 id j := fun id j a b => by rw [zu_ne b, zu_ne a]
    have f2 : ∀ j, j < k + 1 → (yb_pI (yb_pI v 594 k (M.1 195 (F k))) 595 k (M.1 196 (F k))).1 594 j = M.1 195 (F j) ∧ (yb_pI (yb_pI v 594 k (M.1 195 (F k))) 595 k (M.1 196 (F k))).1 595 j = M.1 196 (F j) := fun j hj => by
      rw [zu_ne (by decide)]
      by_cases e : j = k
      · rw [e, zu_eq, zu_eq]
        exact ⟨rfl, rfl⟩
      · rw [zu_col e, zu_col e, zu_ne (by decide)]
        exact i5 j (by omega)
    generalize yb_pI (yb_pI v 594 k (M.1 195 (F k))) 595 k (M.1 196 (F k)) = w at *
    rw [zi_rd (by omega) (by omega), Option.bind_some, f1 592 k (by decide) (by decide), i4.2.2.1 k hlt]
    refine zs_bind (zs_fr (zm_houseN i2 q1 (by rw [eN]; exact hfk)) (Q := fun v => ∀ id, id ≠ 195 → id ≠ 196 → v.1 id = w.1 id) (fun v e id a b => zfr_houses e a b)) fun z hz => ?_
    have hWn := zUn_W i2 (f := F k) (by rw [eN]; exact hfk)
    rw [zyO_s] at hz hWn
    rw [zi_succ]
    refine hnx hlt _ ⟨rfl, hWn, hz.1, ⟨?_, ?_, fun j hj => ?_, fun j hj => ?_⟩, fun j hj => ?_⟩
    · dsimp only
      rw [hz.2 176 (by decide) (by decide), f1 176 74 (by decide) (by decide)]
      exact i4.1
    · dsimp only
      rw [hz.2 176 (by decide) (by decide), f1 176 75 (by decide) (by decide)]
      exact i4.2.1
    · dsimp only
      rw [hz.2 592 (by decide) (by decide), f1 592 j (by decide) (by decide)]
      exact i4.2.2.1 j hj
    · dsimp only
      rw [hz.2 593 (by decide) (by decide), f1 593 j (by decide) (by decide)]
      exact i4.2.2.2 j hj
    · dsimp only
      rw [hz.2 594 (by decide) (by decide), hz.2 595 (by decide) (by decide)]
      exact f2 j hj
  · have hkl := Nat.le_antisymm hk hge
    subst hkl
    rw [if_pos (Int32.le_refl _), Option.bind_some, Option.bind_some, Option.bind_some]
    have q1 := zQ_k (zQ_k (zQ_k i3 (k := 76) (x := -1) (by omega)) (k := 77) (x := -1) (by omega)) (k := 78) (x := -1) (by omega)
    have f1 : ∀ id j, id ≠ 176 → (yb_pI (yb_pI (yb_pI v 176 76 (-1)) 176 77 (-1)) 176 78 (-1)).1 id j = v.1 id j := fun id j a => by rw [zu_ne a, zu_ne a, zu_ne a]
    have f2 : ∀ j, j ≠ 76 → j ≠ 77 → j ≠ 78 → (yb_pI (yb_pI (yb_pI v 176 76 (-1)) 176 77 (-1)) 176 78 (-1)).1 176 j = v.1 176 j := fun j a b c => by rw [zu_id, if_neg c, zu_id, if_neg b, zu_id, if_neg a]
    have f3 : (yb_pI (yb_pI (yb_pI v 176 76 (-1)) 176 77 (-1)) 176 78 (-1)).1 176 76 = -1 := by rw [zu_id, if_neg (by decide), zu_id, if_neg (by decide), zu_eq]
    generalize yb_pI (yb_pI (yb_pI v 176 76 (-1)) 176 77 (-1)) 176 78 (-1) = w at *
    have hw : zyqw F H k nh w := ⟨by rw [f2 74 (by decide) (by decide) (by decide)]; exact i4.1, by rw [f2 75 (by decide) (by decide) (by decide)]; exact i4.2.1, fun j hj => by rw [f1 592 j (by decide)]; exact i4.2.2.1 j hj, fun j hj => by rw [f1 593 j (by decide)]; exact i4.2.2.2 j hj⟩
    have tr := zm_try (o := o) hW hF hw k 0 (by omega) 120 (by omega) (zyO M F k) (fun _ => 0) none w (zyO_P hF i2 _) (Nat.zero_le _) (Nat.zero_le _) (Nat.zero_le _) ⟨q1, ⟨fun _ _ _ => rfl, rfl, rfl⟩, fun j hj => absurd hj (Nat.not_lt_zero _), f3⟩
    refine zs_bind tr fun y hy => ?_
    obtain ⟨y1, y2, y3, y4⟩ := hy
    have y4 : zyQB k (zyBB M F H k nh) y := y4
    unfold l_X12_best_120
    refine zs_up (fun j a => a.1 = zi j ∧ zQ (zyI M F k j) o a.2 ∧ zyqf y a.2) k ?_ yb_N 0 _ (Nat.zero_le _) (by unfold yb_N; omega) (by
      rw [zyI_0]
      exact ⟨rfl, y1, fun _ _ _ => rfl, fun _ _ _ => rfl⟩)
    rintro j ⟨x, a⟩ rd hj ⟨j1, j2, j3⟩ hm
    dsimp only at j1 j2 j3
    subst j1
    show zs_P (f_X12_best_120 (fun x4 s => rd (x4, s)) a3 (zi j) a) _
    have aS := zyqf_s j3 y2
    have aB := zyqf_B j3 y4
    unfold f_X12_best_120
    rw [aS.2.1, hw.1]
    rcases Nat.lt_or_ge j k with hjl | hjg
    · have hfj := hF.2.2.1 j hjl
      have r0 : a.1 592 j = zi (F j) := by rw [aS.1 592 (by omega) (by omega)]; exact hw.2.2.1 j hjl
      have r1 : a.1 594 j = M.1 195 (F j) := by rw [aS.1 594 (by omega) (by omega), f1 594 j (by decide)]; exact (i5 j hjl).1
      have r2 : a.1 595 j = M.1 196 (F j) := by rw [aS.1 595 (by omega) (by omega), f1 595 j (by decide)]; exact (i5 j hjl).2
      have s0 : (yb_pI a 195 (F j) (M.1 195 (F j))).1 592 j = zi (F j) := by rw [zu_ne (by decide)]; exact r0
      have s2 : (yb_pI a 195 (F j) (M.1 195 (F j))).1 595 j = M.1 196 (F j) := by rw [zu_ne (by decide)]; exact r2
      rw [if_neg (by rw [zi_le (by omega) (by omega)]; omega), zi_rd (by omega) (by omega), Option.bind_some, r0, zi_rd (by omega) (by omega), Option.bind_some, r1, zi_wr (by omega) (by omega), Option.bind_some, zi_rd (by omega) (by omega), Option.bind_some, s0, zi_rd (by omega) (by omega), Option.bind_some, s2, zi_wr (by omega) (by omega), Option.bind_some, zi_succ]
      have q2 := zQ_e (id := 196) (k := F j) (x := M.1 196 (F j)) (zQ_e (id := 195) (k := F j) (x := M.1 195 (F j)) j2 (by omega)) (by omega)
      rw [zyI_w] at q2
      refine hm hjl _ ⟨rfl, q2, fun id b c => ?_, fun t b c => ?_⟩
      · dsimp only
        rw [zu_nef (by omega), zu_nef (by omega)]
        exact j3.1 id b c
      · dsimp only
        rw [zu_ne (by decide), zu_ne (by decide)]
        exact j3.2 t b c
    · have hjk := Nat.le_antisymm hj hjg
      subst hjk
      rw [zyI_n] at j2
      obtain ⟨b1, b2, b3, bl, eB⟩ := zyex_some (M := M) (F := F) (H := H) (nh := nh) j 0 (zyO M F j) (fun _ => 0) 0 0 0 none
      have eB : zyBB M F H j nh = some (b1, b2, b3, bl) := eB
      rw [eB] at aB ⊢
      obtain ⟨-, -, -, g4, -, -, g7⟩ := aB
      rw [if_pos (Int32.le_refl _)]
      rcases ha with e | ⟨t, ht, e⟩
      · rw [if_pos e]
        refine zs_ret ⟨?_, j2⟩
        rw [g4]
        exact (if_pos e).symm
      · rw [e, if_neg (by rw [zi_m1 (by omega)]; exact fun q => q), zi_rd (by omega) (by omega), Option.bind_some]
        refine zs_ret ⟨?_, j2⟩
        rw [g7 t ht]
        show bl t = if zi t = -1 then zi b1 else bl (zi t).toNatClampNeg
        rw [if_neg (by rw [zi_m1 (by omega)]; exact fun q => q), zi_tn (by omega)]
end
theorem zyk_rng {a3 : Int32} {n : Nat} (hn : n ≤ 6) : (-1 ≤ a3 ∧ a3 < zi n) = (a3 = -1 ∨ ∃ k, k < n ∧ a3 = zi k) := by
  apply propext
  constructor
  · rintro ⟨h1, h2⟩
    rcases zi_cases a3 with q | ⟨k, hk, e⟩
    · left
      have h1 := Int32.le_iff_toInt_le.mp h1
      have q := Int32.lt_iff_toInt_lt.mp q
      apply Int32.toInt_inj.mp
      have h1 : (-1 : Int) ≤ a3.toInt := h1
      have q : a3.toInt < 0 := q
      show a3.toInt = -1
      omega
    · subst e
      rw [zi_lt hk (by omega)] at h2
      exact Or.inr ⟨k, h2, rfl⟩
  · rintro (e | ⟨k, hk, e⟩)
    · subst e
      refine ⟨Int32.le_refl _, ?_⟩
      rw [show (-1 : Int32) = zm from rfl, zi_mlt (by omega)]
      trivial
    · subst e
      refine ⟨?_, ?_⟩
      · rw [show (-1 : Int32) = zm from rfl, zi_mle (by omega)]
        trivial
      · rw [zi_lt (by omega) (by omega)]
        exact hk
theorem ze_37 : ∀ (a1 a2 a3 : Int32) (s : yb_S), zInv s → ∃ (r : Int32) (s1 s2 : yb_S), f_X11_best a1 a2 a3 s = some (r, s1) ∧ f_X12_best a1 a2 a3 s1 = some (r, s2) ∧ zInv s2 := by
  intro a1 a2 a3 s h
  have hW := h.1
  have h8 := zw_F8 hW
  have h24 := zw_H8 hW
  by_cases hok : zyOk (zP s) a1 a2
  · have hF := zyOk_F hok
    have hn0 := hok.1.2.1
    have h2 := hok.2.2
    have hn6 := hF.1
    have hlt := hok.1.1
    have hbits : a1 = zbits (zyc (zyF (zyt a1) (nF (zP s))).2 (zyF (zyt a1) (nF (zP s))).1) (nF (zP s)) := by
      have e := zyt_a h8 hlt
      refine e.trans (zbits_congr fun q hq => ?_)
      obtain ⟨f1, f2, f3, f4⟩ := zyF_ok (b := zyt a1) (q := nF (zP s))
      rw [Bool.eq_iff_iff, zyc_t]
      constructor
      · intro hb
        obtain ⟨k, hk, ek⟩ := f4 q hq hb
        exact ⟨k, hk, ek.symm⟩
      · rintro ⟨k, hk, ek⟩
        rw [ek]
        exact (f2 k hk).2
    by_cases hk : a3 = -1 ∨ ∃ k, k < (zyF (zyt a1) (nF (zP s))).1 ∧ a3 = zi k
    · have hr := hk
      rw [← zyk_rng hn6] at hr
      refine z_call h (zyAn (zyBB (zP s) (zyF (zyt a1) (nF (zP s))).2 (zyF (zyt a2) (nH (zP s))).2 (zyF (zyt a1) (nF (zP s))).1 (zyF (zyt a2) (nH (zP s))).1) a3) (zP s) (fun m t hA => ?_) (fun o t hQ => ?_) hW (z_b58 h)
      · unfold f_X11_best
        refine zs_bind (zo_takes hW hA a1 a2) fun q hq => ?_
        obtain ⟨c1, c2, c3, c4, c5, c6⟩ := hq.2.1 hok
        rw [c1, if_neg (by decide), if_neg (Int32.not_lt.mpr hr.1), c2, if_pos hr.2]
        refine zs_bind (zo_search hW hF hn0 h2 hq.1 c2 (by rw [c4]; exact hbits) c3 c5 c6) fun v hv => ?_
        obtain ⟨v1, v2⟩ := hv
        obtain ⟨b1, b2, b3, bl, eB⟩ := zyex_some (M := zP s) (F := (zyF (zyt a1) (nF (zP s))).2) (H := (zyF (zyt a2) (nH (zP s))).2) (nh := (zyF (zyt a2) (nH (zP s))).1) (zyF (zyt a1) (nF (zP s))).1 0 (zyO (zP s) (zyF (zyt a1) (nF (zP s))).2 (zyF (zyt a1) (nF (zP s))).1) (fun _ => 0) 0 0 0 none
        have eB : zyBB (zP s) (zyF (zyt a1) (nF (zP s))).2 (zyF (zyt a2) (nH (zP s))).2 (zyF (zyt a1) (nF (zP s))).1 (zyF (zyt a2) (nH (zP s))).1 = some (b1, b2, b3, bl) := eB
        rw [eB] at v2 ⊢
        obtain ⟨-, -, -, g4, -, -, g7⟩ := v2
        rcases hk with e | ⟨t, ht, e⟩
        · rw [if_pos e]
          refine zs_ret ⟨?_, v1⟩
          dsimp only
          rw [g4]
          exact (if_pos e).symm
        · rw [e, if_neg (by rw [zi_m1 (by omega)]; exact fun q => q), zi_rd (by omega) (by omega), Option.bind_some]
          refine zs_ret ⟨?_, v1⟩
          dsimp only
          rw [g7 t ht]
          show bl t = if zi t = -1 then zi b1 else bl (zi t).toNatClampNeg
          rw [if_neg (by rw [zi_m1 (by omega)]; exact fun q => q), zi_tn (by omega)]
      · unfold f_X12_best
        refine zs_bind (zm_canAsk hW hQ a1 a2) fun q hq => ?_
        obtain ⟨c1, c2⟩ := hq.2.1 hok
        have hr2 : -1 ≤ a3 ∧ a3 ≤ zi (zyF (zyt a1) (nF (zP s))).1 - 1 := by
          refine ⟨hr.1, ?_⟩
          rw [show (1 : Int32) = zi 1 from rfl, zi_sub hn0]
          rcases hk with e | ⟨t, ht, e⟩
          · rw [e, show (-1 : Int32) = zm from rfl, zi_mle (by omega)]
            trivial
          · rw [e, zi_le (by omega) (by omega)]
            omega
        rw [c1, if_neg (by decide), c2.1, z_in (l := -1) (lo := -1) (hi := zi (zyF (zyt a1) (nF (zP s))).1 - 1) (by decide) rfl, if_pos hr2, if_neg (by decide)]
        exact zm_search hW hF hn0 hq.1 c2 hk
    · have hr : ¬ (-1 ≤ a3 ∧ a3 < zi (zyF (zyt a1) (nF (zP s))).1) := by
        rw [zyk_rng hn6]
        exact hk
      refine z_call h (-1) (zP s) (fun m t hA => ?_) (fun o t hQ => ?_) hW (z_b58 h)
      · unfold f_X11_best
        refine zs_bind (zo_takes hW hA a1 a2) fun q hq => ?_
        obtain ⟨c1, c2, -⟩ := hq.2.1 hok
        rw [c1, if_neg (by decide), c2]
        by_cases e : a3 < -1
        · rw [if_pos e]
          exact zs_ret ⟨rfl, hq.1⟩
        · rw [if_neg e, if_neg (fun c => hr ⟨Int32.not_lt.mp e, c⟩)]
          exact zs_ret ⟨rfl, hq.1⟩
      · unfold f_X12_best
        refine zs_bind (zm_canAsk hW hQ a1 a2) fun q hq => ?_
        obtain ⟨c1, c2⟩ := hq.2.1 hok
        have hr2 : ¬ (-1 ≤ a3 ∧ a3 ≤ zi (zyF (zyt a1) (nF (zP s))).1 - 1) := by
          rw [show (1 : Int32) = zi 1 from rfl, zi_sub hn0]
          rintro ⟨q1, q2⟩
          refine hr ⟨q1, Int32.lt_of_le_of_lt q2 ?_⟩
          rw [zi_lt (by omega) (by omega)]
          omega
        rw [c1, if_neg (by decide), c2.1, z_in (l := -1) (lo := -1) (hi := zi (zyF (zyt a1) (nF (zP s))).1 - 1) (by decide) rfl, if_neg hr2, if_pos rfl]
        exact zs_ret ⟨rfl, hq.1⟩
  · refine z_call h (-1) (zP s) (fun m t hA => ?_) (fun o t hQ => ?_) hW (z_b58 h)
    · unfold f_X11_best
      refine zs_bind (zo_takes hW hA a1 a2) fun q hq => ?_
      rw [hq.2.2 hok, if_pos rfl]
      exact zs_ret ⟨rfl, hq.1⟩
    · unfold f_X12_best
      refine zs_bind (zm_canAsk hW hQ a1 a2) fun q hq => ?_
      rw [hq.2.2 hok, if_pos rfl]
      exact zs_ret ⟨rfl, hq.1⟩
