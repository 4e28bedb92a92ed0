/-! the reference's table is reckoned -/
theorem zTab_next {M t : yb_S} {r0 o0 k0 : Nat} (h : zTab M r0 o0 k0 t) (hno : ∀ f, f < nF M → f ≠ o0 → zHit M f o0 r0 k0 = true → False) : zTab M r0 o0 (k0 + 1) t := by
  intro f o hf ho hfo
  refine zSp_congr (fun r hr k hk hh => ?_) (h f o hf ho hfo)
  unfold zDone
  by_cases e : o = o0
  · subst e
    by_cases e2 : r = r0 ∧ k = k0
    · obtain ⟨rfl, rfl⟩ := e2
      exact absurd hh (fun q => hno f hf hfo q)
    · omega
  · omega
theorem zTab_o {M t : yb_S} {r0 o0 : Nat} (h : zTab M r0 o0 (nK M) t) : zTab M r0 (o0 + 1) 0 t := by
  intro f o hf ho hfo
  refine zSp_congr (fun r hr k hk hh => ?_) (h f o hf ho hfo)
  unfold zDone
  omega
theorem zTab_o0 {M t : yb_S} {r0 o0 : Nat} (h : zTab M r0 o0 0 t) (hno : zOf M r0 o0 = false) : zTab M r0 (o0 + 1) 0 t := by
  intro f o hf ho hfo
  refine zSp_congr (fun r hr k hk hh => ?_) (h f o hf ho hfo)
  have h3 := (zHit_t.mp hh).2.2
  unfold zDone
  by_cases e : r = r0 ∧ o = o0
  · obtain ⟨rfl, rfl⟩ := e
    rw [hno] at h3
    cases h3
  · omega
theorem zTab_r {M t : yb_S} {r0 : Nat} (h : zTab M r0 (nF M) 0 t) : zTab M (r0 + 1) 0 0 t := by
  intro f o hf ho hfo
  refine zSp_congr (fun r hr k hk hh => ?_) (h f o hf ho hfo)
  unfold zDone
  omega
theorem zTab_w {M t : yb_S} {r0 o0 k0 f0 : Nat} (hF : nF M ≤ 24) (h : zTab M r0 o0 k0 t) (hr0 : r0 < nR M) (hk0 : k0 < nK M) (hf0 : f0 < nF M) (ho0 : o0 < nF M) (hs : M.1 214 k0 = zi f0) (hof : zOf M r0 o0 = true) (h5 : 5 ≤ zPt M k0 r0) (hgt : ¬ zPt M k0 r0 ≤ t.1 (218 + 1 * f0) o0) : zTab M r0 o0 (k0 + 1) (yb_pI t (218 + 1 * f0) o0 (zPt M k0 r0)) := by
  intro f o hf ho hfo
  have hq := h f o hf ho hfo
  have e18 : 218 + f % 24 = 218 + 1 * f := by omega
  rw [e18] at hq ⊢
  by_cases e : f = f0 ∧ o = o0
  · obtain ⟨rfl, rfl⟩ := e
    rw [zu_eq]
    have hH : zHit M f o r0 k0 = true := zHit_t.mpr ⟨hs, h5, hof⟩
    refine Or.inr ⟨h5, ⟨r0, hr0, k0, hk0, ?_, hH, rfl⟩, fun r hr k hk hp hh => ?_⟩
    · unfold zDone
      omega
    · by_cases e2 : r = r0 ∧ k = k0
      · obtain ⟨rfl, rfl⟩ := e2
        exact Int32.le_refl _
      · have hp2 : zDone r0 o k0 r o k := by
          unfold zDone at hp ⊢
          omega
        have hlt := Int32.le_of_lt (Int32.not_le.mp hgt)
        rcases hq with ⟨q1, q2⟩ | ⟨q1, q2, q3⟩
        · rw [q2 r hr k hk hp2] at hh
          cases hh
        · exact Int32.le_trans (q3 r hr k hk hp2 hh) hlt
  · have e3 : (yb_pI t (218 + 1 * f0) o0 (zPt M k0 r0)).1 (218 + 1 * f) o = t.1 (218 + 1 * f) o := by
      rw [zu_rd]
      by_cases e4 : 218 + 1 * f = 218 + 1 * f0
      · rw [if_pos e4, if_neg (by omega)]
      · rw [if_neg e4]
    rw [e3]
    refine zSp_congr (fun r hr k hk hh => ?_) hq
    unfold zDone
    by_cases e5 : o = o0
    · subst e5
      by_cases e2 : r = r0 ∧ k = k0
      · obtain ⟨rfl, rfl⟩ := e2
        have h1 := (zHit_t.mp hh).1
        rw [hs, zi_inj (by omega) (by omega)] at h1
        exact absurd ⟨h1.symm, rfl⟩ e
      · omega
    · omega
theorem zTab_le {M t : yb_S} {r0 o0 k0 f0 : Nat} (hF : nF M ≤ 24) (h : zTab M r0 o0 k0 t) (hf0 : f0 < nF M) (hfo0 : f0 ≠ o0) (ho0 : o0 < nF M) (hs : M.1 214 k0 = zi f0) (h5 : 5 ≤ zPt M k0 r0) (hle : zPt M k0 r0 ≤ t.1 (218 + 1 * f0) o0) : zTab M r0 o0 (k0 + 1) t := by
  intro f o hf ho hfo
  have hq := h f o hf ho hfo
  have e18 : 218 + f % 24 = 218 + 1 * f := by omega
  rw [e18] at hq ⊢
  by_cases e : f = f0 ∧ o = o0
  · obtain ⟨rfl, rfl⟩ := e
    rcases hq with ⟨q1, q2⟩ | ⟨q1, ⟨r1, hr1, k1, hk1, a1, a2, a3⟩, q3⟩
    · rw [q1] at hle
      exact absurd (Int32.le_trans h5 hle) (by decide)
    · refine Or.inr ⟨q1, ⟨r1, hr1, k1, hk1, ?_, a2, a3⟩, fun r hr k hk hp hh => ?_⟩
      · unfold zDone at a1 ⊢
        omega
      · by_cases e2 : r = r0 ∧ k = k0
        · obtain ⟨rfl, rfl⟩ := e2
          exact hle
        · exact q3 r hr k hk (by unfold zDone at hp ⊢; omega) hh
  · refine zSp_congr (fun r hr k hk hh => ?_) hq
    unfold zDone
    by_cases e5 : o = o0
    · subst e5
      by_cases e2 : r = r0 ∧ k = k0
      · obtain ⟨rfl, rfl⟩ := e2
        have h1 := (zHit_t.mp hh).1
        rw [hs, zi_inj (by omega) (by omega)] at h1
        exact absurd ⟨h1.symm, rfl⟩ e
      · omega
    · omega
theorem zTab_w0 {M t : yb_S} {r0 o0 k0 f0 : Nat} {x : Int32} (hF : nF M ≤ 24) (h : zTab M r0 o0 k0 t) (hf0 : f0 < nF M) (hfo0 : f0 = o0) (hs : M.1 214 k0 = zi f0) : zTab M r0 o0 (k0 + 1) t := by
  refine zTab_next h (fun f hf hne hh => ?_)
  have h1 := (zHit_t.mp hh).1
  rw [hs, zi_inj (by omega) (by omega)] at h1
  omega
theorem zw_k {M : yb_S} (h : zW M) {k : Nat} (hk : k < nK M) : (∃ f, f < nF M ∧ M.1 214 k = zi f) ∧ (∃ b, b ≤ 120 ∧ M.1 216 k = zi b) := h.2.2.2.2.2.2.2.2.1.2 k hk
theorem zw_r {M : yb_S} (h : zW M) {r : Nat} (hr : r < nR M) : (∃ b, b ≤ 120 ∧ M.1 209 r = zi b) ∧ (M.1 212 r = -1 ∨ ∃ f, f < nF M ∧ M.1 212 r = zi f) ∧ (∃ q, q < nR M ∧ M.1 213 r = zi q) := h.2.2.2.2.2.2.2.2.1.1 r hr
theorem zfk_rd {s t : yb_S} (h : zfk s t) {id k : Nat} (hid : (id < 218 ∨ 242 ≤ id) ∧ (id ≠ 176 ∨ k ≠ 42)) : t.1 id k = s.1 id k := h.1 id k hid.1 hid.2
theorem zfk_w {s t : yb_S} (h : zfk s t) {id k : Nat} {x : Int32} (hid : 218 ≤ id ∧ id < 242) : zfk s (yb_pI t id k x) := ⟨fun a b h1 h2 => (zu_ne (by omega)).trans (h.1 a b h1 h2), h.2⟩
theorem zm_reck75 {M o s : yb_S} (hW : zW M) (hQ : zQ M o s) {rc43 rc53 : Int32 → yb_S → Option yb_S} {Q : yb_S → Prop} {r0 o0 : Nat} (hr0 : r0 < nR M) (ho0 : o0 < nF M) (hof : zOf M r0 o0 = true) {t : yb_S} (ht : zfk s t) (hT : zTab M r0 o0 0 t) (hnext : ∀ u, zfk s u → zTab M r0 (o0 + 1) 0 u → zs_P (rc53 (zi (o0 + 1)) u) Q) : zs_P (l_X12_reckons_75 rc43 rc53 (zi r0) (zi o0) yb_N (zi 0) t) Q := by
  have h8 := zw_F8 hW
  have hR8 := zw_R8 hW
  have hK8 := zw_K8 hW
  unfold l_X12_reckons_75
  refine zs_up (fun k q => q.1 = zi k ∧ zfk s q.2 ∧ zTab M r0 o0 k q.2) (nK M) ?_ yb_N 0 _ (Nat.zero_le _) (by unfold yb_N; omega) ⟨rfl, ht, hT⟩
  rintro k ⟨x, u⟩ rc hk ⟨i1, i2, i3⟩ hn
  dsimp only at i1 i2 i3
  subst i1
  show zs_P (f_X12_reckons_75 rc43 rc53 (fun x3 s => rc (x3, s)) (zi r0) (zi o0) (zi k) u) Q
  unfold f_X12_reckons_75 j_X12_reckons_167 j_X12_reckons_161
  rw [zfk_rd i2 (by omega), zqk hQ (by omega), zw_K hW]
  rcases Nat.lt_or_ge k (nK M) with hlt | hge
  · rw [if_neg (by rw [zi_le (by omega) (by omega)]; omega)]
    obtain ⟨⟨f0, hf0, e0⟩, -⟩ := zw_k hW hlt
    simp (disch := omega) only [zi_rd, zfk_rd i2, zq hQ, Option.bind_some, zm_pts, e0, zi_ri, zi_wr]
    rw [show zpts (M.1 215 k) (M.1 216 k) (M.1 208 r0) (M.1 209 r0) = zPt M k r0 from rfl]
    by_cases h1 : zi f0 = zi o0
    · rw [if_pos h1, zi_succ]
      rw [zi_inj (by omega) (by omega)] at h1
      exact hn hlt _ ⟨rfl, i2, zTab_w0 (x := 0) h8 i3 hf0 h1 e0⟩
    · rw [if_neg h1]
      rw [zi_inj (by omega) (by omega)] at h1
      by_cases h5 : zPt M k r0 < 5
      · rw [if_pos h5, zi_succ]
        exact hn hlt _ ⟨rfl, i2, zTab_next i3 (fun f hf hne hh => absurd (zHit_t.mp hh).2.1 (Int32.not_le.mpr h5))⟩
      · rw [if_neg h5]
        have h5 := Int32.not_lt.mp h5
        by_cases hle : zPt M k r0 ≤ u.1 (218 + 1 * f0) o0
        · rw [if_pos hle, zi_succ]
          exact hn hlt _ ⟨rfl, i2, zTab_le h8 i3 hf0 h1 ho0 e0 h5 hle⟩
        · rw [if_neg hle, zi_succ]
          exact hn hlt _ ⟨rfl, zfk_w i2 (by omega), zTab_w h8 i3 hr0 hlt hf0 ho0 e0 hof h5 hle⟩
  · have hkl := Nat.le_antisymm hk hge
    subst hkl
    rw [if_pos (Int32.le_refl _), zi_succ]
    exact hnext u i2 (zTab_o i3)
theorem zm_reck43 {M o s : yb_S} (hW : zW M) (hQ : zQ M o s) {t : yb_S} (ht : zfk s t) (hT : zTab M 0 0 0 t) : zs_P (l_X12_reckons_43 yb_N (zi 0) t) (fun u => zfk s u ∧ zTab M (nR M) 0 0 u) := by
  have h8 := zw_F8 hW
  have hR8 := zw_R8 hW
  unfold l_X12_reckons_43
  refine zs_up (fun k q => q.1 = zi k ∧ zfk s q.2 ∧ zTab M k 0 0 q.2) (nR M) ?_ yb_N 0 _ (Nat.zero_le _) (by unfold yb_N; omega) ⟨rfl, ht, hT⟩
  rintro r0 ⟨x, u⟩ rc hk ⟨i1, i2, i3⟩ hn
  dsimp only at i1 i2 i3
  subst i1
  show zs_P (f_X12_reckons_43 (fun x1 s => rc (x1, s)) (zi r0) u) _
  unfold f_X12_reckons_43
  rw [zfk_rd i2 (by omega), zqk hQ (by omega), zw_R hW]
  rcases Nat.lt_or_ge r0 (nR M) with hlt | hge
  · rw [if_neg (by rw [zi_le (by omega) (by omega)]; omega)]
    unfold l_X12_reckons_53
    refine zs_up (fun k q => q.1 = zi k ∧ zfk s q.2 ∧ zTab M r0 k 0 q.2) (nF M) ?_ yb_N 0 _ (Nat.zero_le _) (by unfold yb_N; omega) ⟨rfl, i2, i3⟩
    rintro o0 ⟨x, v⟩ rc2 hk2 ⟨i4, i5, i6⟩ hn2
    dsimp only at i4 i5 i6
    subst i4
    show zs_P (f_X12_reckons_53 _ (fun x2 s => rc2 (x2, s)) (zi r0) (zi o0) v) _
    unfold f_X12_reckons_53 j_X12_reckons_167
    have hQv : f_X12_isOf (zi r0) (zi o0) v = f_X12_isOf (zi r0) (zi o0) v := rfl
    rw [zfk_rd i5 (by omega), zqk hQ (by omega), zw_F hW]
    rcases Nat.lt_or_ge o0 (nF M) with hlt2 | hge2
    · rw [if_neg (by rw [zi_le (by omega) (by omega)]; omega)]
      have hof : f_X12_isOf (zi r0) (zi o0) v = some (zb (zOf M r0 o0)) := by
        rw [← zm_isOf hW hQ hlt]
        unfold f_X12_isOf l_X12_isOf_2 f_X12_isOf_2 j_X12_isOf_37 yb_rd
        simp (disch := omega) only [zfk_rd i5]
      rw [hof, Option.bind_some]
      simp only [zb_t0]
      cases hz : zOf M r0 o0
      · rw [if_pos rfl, zi_succ]
        exact hn2 hlt2 _ ⟨rfl, i5, zTab_o0 i6 hz⟩
      · rw [if_neg (by decide)]
        exact zm_reck75 hW hQ hlt hlt2 hz i5 i6 (fun w hw1 hw2 => hn2 hlt2 _ ⟨rfl, hw1, hw2⟩)
    · have hkl := Nat.le_antisymm hk2 hge2
      subst hkl
      rw [if_pos (Int32.le_refl _), zi_succ]
      exact hn hlt _ ⟨rfl, i5, zTab_r i6⟩
  · have hkl := Nat.le_antisymm hk hge
    subst hkl
    rw [if_pos (Int32.le_refl _), Option.bind_some]
    refine zs_ret ⟨⟨fun a b h1 h2 => ?_, i2.2⟩, fun f o hf ho hfo => ?_⟩
    · rw [zu_rd]
      by_cases e : a = 176
      · rw [if_pos e, if_neg (by omega)]
        exact i2.1 a b h1 h2
      · rw [if_neg e]
        exact i2.1 a b h1 h2
    · rw [zu_ne (by omega)]
      exact i3 f o hf ho hfo
theorem zm_reck {M o s : yb_S} (hW : zW M) (hQ : zQ M o s) : zs_P (f_X12_reckons s) (fun u => zfk s u ∧ zTab M (nR M) 0 0 u) := by
  have h8 := zw_F8 hW
  unfold f_X12_reckons l_X12_reckons_2
  refine zs_up (fun k q => q.1 = zi k ∧ zfk s q.2 ∧ ∀ f o, f < k → o < nF M → q.2.1 (218 + 1 * f) o = -1) (nF M) ?_ yb_N 0 _ (Nat.zero_le _) (by unfold yb_N; omega) ⟨rfl, ⟨fun _ _ _ _ => rfl, rfl⟩, fun f o hf _ => absurd hf (Nat.not_lt_zero _)⟩
  rintro f0 ⟨x, u⟩ rc hk ⟨i1, i2, i3⟩ hn
  dsimp only at i1 i2 i3
  subst i1
  show zs_P (f_X12_reckons_2 (fun x1 s => rc (x1, s)) (zi f0) u) _
  unfold f_X12_reckons_2
  rw [zfk_rd i2 (by omega), zqk hQ (by omega), zw_F hW]
  rcases Nat.lt_or_ge f0 (nF M) with hlt | hge
  · rw [if_neg (by rw [zi_le (by omega) (by omega)]; omega)]
    unfold l_X12_reckons_12
    refine zs_up (fun k q => q.1 = zi k ∧ zfk s q.2 ∧ ∀ f o, (f < f0 ∧ o < nF M) ∨ (f = f0 ∧ o < k) → q.2.1 (218 + 1 * f) o = -1) (nF M) ?_ yb_N 0 _ (Nat.zero_le _) (by unfold yb_N; omega) ⟨rfl, i2, fun f o hf => i3 f o (by omega) (by omega)⟩
    rintro o0 ⟨x, v⟩ rc2 hk2 ⟨i4, i5, i6⟩ hn2
    dsimp only at i4 i5 i6
    subst i4
    show zs_P (f_X12_reckons_12 _ (fun x2 s => rc2 (x2, s)) (zi f0) (zi o0) v) _
    unfold f_X12_reckons_12
    rw [zfk_rd i5 (by omega), zqk hQ (by omega), zw_F hW]
    rcases Nat.lt_or_ge o0 (nF M) with hlt2 | hge2
    · rw [if_neg (by rw [zi_le (by omega) (by omega)]; omega)]
      simp (disch := omega) only [zi_ri, Option.bind_some, zi_wr, zi_succ]
      refine hn2 hlt2 _ ⟨rfl, zfk_w i5 (by omega), fun f o hf => ?_⟩
      rw [zu_rd]
      by_cases e : 218 + 1 * f = 218 + 1 * f0
      · rw [if_pos e]
        by_cases e2 : o = o0
        · rw [if_pos e2]
        · rw [if_neg e2]
          exact i6 f o (by omega)
      · rw [if_neg e]
        exact i6 f o (by omega)
    · have hkl := Nat.le_antisymm hk2 hge2
      subst hkl
      rw [if_pos (Int32.le_refl _), zi_succ]
      exact hn hlt _ ⟨rfl, i5, fun f o hf ho => i6 f o (by omega)⟩
  · have hkl := Nat.le_antisymm hk hge
    subst hkl
    rw [if_pos (Int32.le_refl _)]
    refine zm_reck43 hW hQ i2 (fun f o hf ho hfo => Or.inl ⟨?_, fun r hr k hk hp => ?_⟩)
    · rw [show 218 + f % 24 = 218 + 1 * f by omega]
      exact i3 f o hf ho
    · unfold zDone at hp
      omega
