/-! the class joins and parts -/
theorem zhj_ok {M : yb_S} (hW : zW M) {a b : Nat} (ha : a < nR M) : ∀ r, r < nR M → ∃ q, q < nR M ∧ zhj M a b r = zi q := fun r hr => by
  unfold zhj
  split
  · exact (zw_r hW ha).2.2
  · exact (zw_r hW hr).2.2
theorem zhp_ok {M : yb_S} (hW : zW M) {a : Nat} : ∀ r, r < nR M → ∃ q, q < nR M ∧ zhp M a r = zi q := fun r hr => by
  unfold zhp
  split
  · exact ⟨r, hr, rfl⟩
  · exact (zw_r hW hr).2.2
theorem zOf_hp {M : yb_S} {hp : Nat → Int32} {r q : Nat} : zOf (zHp M hp) r q = zany (fun x => M.1 212 x == zi q && hp x == hp r) (nR M) := by
  rw [zOf_a, zHp_N.2.1, zHp_1, zHp_c (by decide)]
theorem zPt_hp {M : yb_S} {hp : Nat → Int32} {k r : Nat} : zPt (zHp M hp) k r = zPt M k r := by
  unfold zPt
  rw [zHp_c (id := 215) (by decide), zHp_c (id := 216) (by decide), zHp_c (id := 208) (by decide), zHp_c (id := 209) (by decide)]
theorem zHit_hp {M : yb_S} {hp : Nat → Int32} {f q r k : Nat} (h : zOf (zHp M hp) r q = zOf M r q) : zHit (zHp M hp) f q r k = zHit M f q r k := zHit_c (by rw [zHp_c (by decide)]) zPt_hp h
theorem zFinds_join {M : yb_S} {a b : Nat} (ha : a < nR M) (hab : M.1 213 a ≠ M.1 213 b) (f q : Nat) : (zFinds M f q || zany (fun r => (zhj M a b r == M.1 213 a) && zany (fun k => zHit (zHp M (zhj M a b)) f q r k) (nK M)) (nR M)) = zFinds (zHp M (zhj M a b)) f q := by
  have hE : zFinds (zHp M (zhj M a b)) f q = zany (fun r => zany (fun k => zHit (zHp M (zhj M a b)) f q r k) (nK M)) (nR M) := by
    rw [zFinds_a, zHp_N.2.1, zHp_N.2.2]
  have hmono : ∀ r, r < nR M → zOf M r q = true → zOf (zHp M (zhj M a b)) r q = true := fun r hr h => by
    rw [zOf_a] at h
    obtain ⟨x, hx, e⟩ := zany_t.mp h
    simp only [Bool.and_eq_true, beq_iff_eq] at e
    rw [zOf_hp]
    refine zany_t.mpr ⟨x, hx, ?_⟩
    simp only [Bool.and_eq_true, beq_iff_eq]
    refine ⟨e.1, ?_⟩
    unfold zhj
    rw [e.2]
    by_cases e2 : M.1 213 r = M.1 213 b
    · rw [if_pos ⟨hx, e2⟩, if_pos ⟨hr, e2⟩]
    · rw [if_neg (fun q => e2 q.2), if_neg (fun q => e2 q.2)]
  have hback : ∀ r, r < nR M → zhj M a b r ≠ M.1 213 a → zOf (zHp M (zhj M a b)) r q = true → zOf M r q = true := fun r hr hne h => by
    rw [zOf_hp] at h
    obtain ⟨x, hx, e⟩ := zany_t.mp h
    simp only [Bool.and_eq_true, beq_iff_eq] at e
    have er : zhj M a b r = M.1 213 r := by
      unfold zhj at hne ⊢
      by_cases e2 : M.1 213 r = M.1 213 b
      · rw [if_pos ⟨hr, e2⟩] at hne
        exact absurd rfl hne
      · rw [if_neg (fun q => e2 q.2)]
    have ex : zhj M a b x = M.1 213 x := by
      have := e.2
      unfold zhj at this ⊢
      by_cases e2 : M.1 213 x = M.1 213 b
      · exfalso
        rw [if_pos ⟨hx, e2⟩] at this
        apply hne
        unfold zhj
        exact this.symm
      · rw [if_neg (fun q => e2 q.2)]
    rw [zOf_a]
    refine zany_t.mpr ⟨x, hx, ?_⟩
    simp only [Bool.and_eq_true, beq_iff_eq]
    exact ⟨e.1, by rw [← ex, ← er]; exact e.2⟩
  have hH : ∀ r k, zHit (zHp M (zhj M a b)) f q r k = true ↔ M.1 214 k = zi f ∧ 5 ≤ zPt M k r ∧ zOf (zHp M (zhj M a b)) r q = true := fun r k => by
    rw [zHit_t, zPt_hp, zHp_c (id := 214) (by decide)]
  rw [hE]
  cases e : zany (fun r => zany (fun k => zHit (zHp M (zhj M a b)) f q r k) (nK M)) (nR M)
  · have e2 : zFinds M f q = false := by
      rw [zFinds_a]
      refine zany_f.mpr fun r hr => zany_f.mpr fun k hk => ?_
      cases e3 : zHit M f q r k
      · rfl
      · have h3 := zHit_t.mp e3
        have := zany_f.mp (zany_f.mp e r hr) k hk
        rw [(hH r k).mpr ⟨h3.1, h3.2.1, hmono r hr h3.2.2⟩] at this
        cases this
    rw [e2, Bool.false_or]
    refine zany_f.mpr fun r hr => ?_
    rw [zany_f.mp e r hr, Bool.and_false]
  · obtain ⟨r, hr, e2⟩ := zany_t.mp e
    obtain ⟨k, hk, e3⟩ := zany_t.mp e2
    by_cases hj : zhj M a b r = M.1 213 a
    · rw [show zany (fun r => (zhj M a b r == M.1 213 a) && zany (fun k => zHit (zHp M (zhj M a b)) f q r k) (nK M)) (nR M) = true from zany_t.mpr ⟨r, hr, by rw [e2, hj]; simp⟩, Bool.or_true]
    · have h3 := (hH r k).mp e3
      have e4 : zFinds M f q = true := by
        rw [zFinds_a]
        exact zany_t.mpr ⟨r, hr, zany_t.mpr ⟨k, hk, zHit_t.mpr ⟨h3.1, h3.2.1, hback r hr hj h3.2.2⟩⟩⟩
      rw [e4]
      rfl
theorem zO_48 {s t : yb_S} (h : (∀ id, id ≠ 48 → t.1 id = s.1 id) ∧ t.2 = s.2) : (∀ id k, id ≠ 48 → id ≠ 52 → id ≠ 53 → (zO t).1 id k = (zO s).1 id k) ∧ (zO t).2 = (zO s).2 ∧ zHm t = zHm s := by
  refine ⟨fun id k h1 _ _ => ?_, ?_, ?_⟩
  · show (if zeO id k then t.1 id k else 0) = (if zeO id k then s.1 id k else 0)
    rw [h.1 id h1]
  · show (fun id k => if id < 176 then t.2 id k else 0) = (fun id k => if id < 176 then s.2 id k else 0)
    rw [h.2]
  · apply Prod.ext
    · funext a
      exact h.1 (a + 176) (by omega)
    · funext a
      show t.2 (a + 176) = s.2 (a + 176)
      rw [h.2]
theorem zo_joinL {M m s : yb_S} (hW : zW M) (hA : zA M m s) {a b : Nat} (ha : a < nR M) (hb : b < nR M) (hab : M.1 213 a ≠ M.1 213 b) : zs_P (l_X7_joinHeaps_73 (M.1 213 a) (M.1 213 b) yb_N (zi 0) (zi 0) s) (fun q => q.1 = zsum (fun r => cond (zhj M a b r == M.1 213 a) 1 0) (nR M) ∧ zA (zHp M (zhj M a b)) m q.2) := by
  have hR8 := zw_R8 hW
  have hW' := zHp_W hW (zhj_ok hW (b := b) ha)
  obtain ⟨n1, n2, n3⟩ := zHp_N (M := M) (hp := zhj M a b)
  unfold l_X7_joinHeaps_73
  refine zs_up (fun k q => q.1 = zsum (fun r => cond (zhj M a b r == M.1 213 a) 1 0) k ∧ q.2.1 = zi k ∧ (∀ r, r < nR M → q.2.2.1 48 r = zhk M (zhj M a b) k r) ∧ (∀ id, id ≠ 48 → q.2.2.1 id = s.1 id) ∧ q.2.2.2 = s.2) (nR M) ?_ yb_N 0 _ (Nat.zero_le _) (by unfold yb_N; omega) ⟨rfl, rfl, fun r hr => by rw [zhk_0]; exact cq_48 hA hr, fun _ _ => rfl, rfl⟩
  rintro k ⟨x, y, u⟩ rc hk ⟨i1, i2, i3, i4, i5⟩ hn
  dsimp only at i1 i2 i3 i4 i5
  subst i1 i2
  show zs_P (f_X7_joinHeaps_73 (fun x5 x6 s => rc (x5, x6, s)) _ _ _ (zi k) u) _
  unfold f_X7_joinHeaps_73 j_X7_joinHeaps_102 j_X7_joinHeaps_116
  rw [i4 41 (by decide), cq_R hA, zw_R hW]
  rcases Nat.lt_or_ge k (nR M) with hlt | hge
  · have hone : ∀ v : yb_S, v.1 48 k = zhj M a b k → (∀ r, r < nR M → v.1 48 r = zhk M (zhj M a b) (k + 1) r) → (∀ id, id ≠ 48 → v.1 id = s.1 id) → v.2 = s.2 → zs_P ((yb_rd v 48 60 (zi k)).bind fun v25 => if v25 = M.1 213 a then rc (zsum (fun r => cond (zhj M a b r == M.1 213 a) 1 0) k + 1, zi k + 1, v) else rc (zsum (fun r => cond (zhj M a b r == M.1 213 a) 1 0) k, zi k + 1, v)) (fun q => q.1 = zsum (fun r => cond (zhj M a b r == M.1 213 a) 1 0) (nR M) ∧ zA (zHp M (zhj M a b)) m q.2) := by
      intro v hv h1 h2 h3
      rw [zi_rd (by omega) (by omega), Option.bind_some, hv, zi_succ]
      by_cases e : zhj M a b k = M.1 213 a
      · rw [if_pos e]
        exact hn hlt _ ⟨by rw [zsum_succ, e]; simp, rfl, h1, h2, h3⟩
      · rw [if_neg e]
        exact hn hlt _ ⟨by rw [zsum_succ, show (zhj M a b k == M.1 213 a) = false from beq_eq_false_iff_ne.mpr e]; simp, rfl, h1, h2, h3⟩
    have ek : u.1 48 k = M.1 213 k := (i3 k hlt).trans (if_neg (Nat.lt_irrefl _))
    rw [if_neg (by rw [zi_le (by omega) (by omega)]; omega), zi_rd (by omega) (by omega), Option.bind_some, ek]
    by_cases e : M.1 213 k = M.1 213 b
    · rw [if_pos e, zi_wr (by omega) (by omega), Option.bind_some]
      have ez : zhj M a b k = M.1 213 a := if_pos ⟨hlt, e⟩
      refine hone _ (by rw [zu_eq, ez]) (fun r hr => ?_) (fun id hid => (zu_nef hid).trans (i4 id hid)) i5
      rw [zu_id, ← zhk_s]
      dsimp only
      by_cases e2 : r = k
      · rw [if_pos e2, if_pos e2, ez]
      · rw [if_neg e2, if_neg e2]
        exact i3 r hr
    · rw [if_neg e]
      have ez : zhj M a b k = M.1 213 k := if_neg (fun q => e q.2)
      have hlast := hone u (ek.trans ez.symm) (fun r hr => by rw [← zhk_same ez]; exact i3 r hr) i4 i5
      rw [zi_rd (by omega) (by omega), ek] at hlast
      exact hlast
  · have hkl := Nat.le_antisymm hk hge
    subst hkl
    rw [if_pos (Int32.le_refl _)]
    obtain ⟨z1, z2, z3⟩ := zO_48 ⟨i4, i5⟩
    have h48 : ∀ r, r < nR M → (zO u).1 48 r = zhj M a b r := fun r hr => (i3 r hr).trans (if_pos hr)
    have hR0 : zR0 (zO u) (zHp M (zhj M a b)) := zHp_R (zR_0 hA.1) z1 z2 h48
    have hru : zRr u (zHp M (zhj M a b)) := hR0.2.2.2.2.2.1
    have hKu : zKt (zFinds M) (nF (zHp M (zhj M a b))) u := by
      rw [n1]
      intro f hf
      rw [i4 52 (by decide), i4 53 (by decide)]
      exact zKt_of hA f hf
    unfold l_X7_joinHeaps_125
    refine zs_up (fun r q => q.1 = zi r ∧ zfkk u q.2 ∧ zKt (fun f q => zFinds M f q || zany (fun r => (zhj M a b r == M.1 213 a) && zany (fun k => zHit (zHp M (zhj M a b)) f q r k) (nK M)) r) (nF (zHp M (zhj M a b))) q.2) (nR M) ?_ yb_N 0 _ (Nat.zero_le _) (by unfold yb_N; omega) ⟨rfl, zfkk_refl u, fun f hf => ?_⟩
    · rintro r ⟨x, w⟩ rc2 hr2 ⟨j1, j2, j3⟩ hn2
      dsimp only at j1 j2 j3
      subst j1
      have hrw := zRr_k j2 hru
      show zs_P (f_X7_joinHeaps_125 (fun x6 s => rc2 (x6, s)) _ _ (zi r) w) _
      unfold f_X7_joinHeaps_125 j_X7_joinHeaps_151
      rw [hrw.1, zw_R hW', n2]
      rcases Nat.lt_or_ge r (nR M) with hlt | hge
      · have e48 := (hrw.2.2.1 r (by rw [n2]; exact hlt)).2.2.2.2.2.2
        rw [zHp_1] at e48
        have es : ∀ f q, (zFinds M f q || zany (fun r => (zhj M a b r == M.1 213 a) && zany (fun k => zHit (zHp M (zhj M a b)) f q r k) (nK M)) (r + 1)) = ((zFinds M f q || zany (fun r => (zhj M a b r == M.1 213 a) && zany (fun k => zHit (zHp M (zhj M a b)) f q r k) (nK M)) r) || ((zhj M a b r == M.1 213 a) && zany (fun k => zHit (zHp M (zhj M a b)) f q r k) (nK M))) := fun f q => (Bool.or_assoc _ _ _).symm
        rw [if_neg (by rw [zi_le (by omega) (by omega)]; omega), zi_rd (by omega) (by omega), Option.bind_some, e48]
        by_cases e : zhj M a b r = M.1 213 a
        · rw [if_pos e]
          refine zs_bind (zo_note hW' hrw j3 (r := r) (by rw [n2]; exact hlt)) fun v hv => ?_
          rw [zi_succ]
          refine hn2 hlt _ ⟨rfl, zfkk_trans j2 hv.1, fun f hf => ?_⟩
          have := hv.2 f hf
          rw [n3] at this
          simp only [es, show (zhj M a b r == M.1 213 a) = true by rw [e]; simp, Bool.true_and]
          exact this
        · rw [if_neg e, zi_succ]
          refine hn2 hlt _ ⟨rfl, j2, fun f hf => ?_⟩
          simp only [es, show (zhj M a b r == M.1 213 a) = false from beq_eq_false_iff_ne.mpr e, Bool.false_and, Bool.or_false]
          exact j3 f hf
      · have hkl := Nat.le_antisymm hr2 hge
        subst hkl
        rw [if_pos (Int32.le_refl _)]
        refine zs_ret ⟨rfl, zR_of (zR0_k j2 hR0) (zKt_O ?_), (zHm_k j2).trans (z3.trans hA.2)⟩
        intro f hf
        have := j3 f hf
        simp only [zFinds_join ha hab] at this
        exact this
    · have := hKu f hf
      simp only [zany, Bool.or_false]
      exact this
theorem ze_11 : ∀ (a1 a2 : Int32) (s : yb_S), zInv s → ∃ (r : Int32) (s1 s2 : yb_S), f_X11_join a1 a2 s = some (r, s1) ∧ f_X12_join a1 a2 s1 = some (r, s2) ∧ zInv s2 := by
  intro a1 a2 s h
  have hW := h.1
  have hR8 := zw_R8 hW
  by_cases hc : ∃ a b, a < nR (zP s) ∧ b < nR (zP s) ∧ a1 = zi a ∧ a2 = zi b ∧ (zP s).1 213 a ≠ (zP s).1 213 b
  · obtain ⟨a, b, ha, hb, rfl, rfl, hab⟩ := hc
    cases hcf : zConf (zP s) a b
    · refine z_call h (zsum (fun r => cond (zhj (zP s) a b r == (zP s).1 213 a) 1 0) (nR (zP s))) (zHp (zP s) (zhj (zP s) a b)) (fun m t hA => ?_) (fun o t hQ => ?_) (zHp_W hW (zhj_ok hW ha)) ?_
      · unfold f_X11_join f_X7_joinHeaps
        rw [zo_hRt hW hA ha, zo_hRt hW hA hb, Option.bind_some, if_neg (by decide), Option.bind_some, if_neg (by decide)]
        simp (disch := omega) only [zi_rd, Option.bind_some, cq_48 hA]
        rw [if_neg hab]
        obtain ⟨v, ev, hv⟩ := zo_conf hW hA (a := a) (b := b)
        rw [ev, Option.bind_some, hv, hcf, if_neg (by decide)]
        exact zs_bind (zo_joinL hW hA ha hb hab) fun q hq => zs_ret hq
      · unfold f_X12_join
        rw [zm_hRt hW hQ ha, zm_hRt hW hQ hb, Option.bind_some, if_neg (by decide), Option.bind_some, if_neg (by decide)]
        simp (disch := omega) only [zi_rd, Option.bind_some, zq hQ]
        rw [if_neg hab]
        refine zm_conf hW hQ ha hb (fun q => by rw [hcf] at q; cases q) (fun _ => zm_joinL hW hQ ha hb hab)
      · rw [zHp_c (by decide)]
        exact z_b58 h
    · refine z_ask h (-1) (fun m t hA => ?_) (fun o t hQ => ?_)
      · unfold f_X11_join f_X7_joinHeaps
        rw [zo_hRt hW hA ha, zo_hRt hW hA hb, Option.bind_some, if_neg (by decide), Option.bind_some, if_neg (by decide)]
        simp (disch := omega) only [zi_rd, Option.bind_some, cq_48 hA]
        rw [if_neg hab]
        obtain ⟨v, ev, hv⟩ := zo_conf hW hA (a := a) (b := b)
        rw [ev, Option.bind_some, hv, hcf, if_pos (by decide)]
        exact zs_ret ⟨rfl, hA⟩
      · unfold f_X12_join
        rw [zm_hRt hW hQ ha, zm_hRt hW hQ hb, Option.bind_some, if_neg (by decide), Option.bind_some, if_neg (by decide)]
        simp (disch := omega) only [zi_rd, Option.bind_some, zq hQ]
        rw [if_neg hab]
        exact zm_conf hW hQ ha hb (fun q => ⟨rfl, hQ⟩) (fun q => by rw [hcf] at q; cases q)
  · refine z_ask h (-1) (fun m t hA => ?_) (fun o t hQ => ?_)
    · unfold f_X11_join f_X7_joinHeaps
      by_cases h1 : zin a1 (nR (zP s))
      · obtain ⟨a, ha, rfl⟩ := h1
        by_cases h2 : zin a2 (nR (zP s))
        · obtain ⟨b, hb, rfl⟩ := h2
          have e : (zP s).1 213 a = (zP s).1 213 b := Classical.byContradiction fun q => hc ⟨a, b, ha, hb, rfl, rfl, q⟩
          rw [zo_hRt hW hA ha, zo_hRt hW hA hb, Option.bind_some, if_neg (by decide), Option.bind_some, if_neg (by decide)]
          simp (disch := omega) only [zi_rd, Option.bind_some, cq_48 hA]
          rw [if_pos e]
          exact zs_ret ⟨rfl, hA⟩
        · rw [zo_hRt hW hA ha, zo_hRf hW hA h2]
          exact zs_ret ⟨rfl, hA⟩
      · rw [zo_hRf hW hA h1]
        exact zs_ret ⟨rfl, hA⟩
    · unfold f_X12_join
      by_cases h1 : zin a1 (nR (zP s))
      · obtain ⟨a, ha, rfl⟩ := h1
        by_cases h2 : zin a2 (nR (zP s))
        · obtain ⟨b, hb, rfl⟩ := h2
          have e : (zP s).1 213 a = (zP s).1 213 b := Classical.byContradiction fun q => hc ⟨a, b, ha, hb, rfl, rfl, q⟩
          rw [zm_hRt hW hQ ha, zm_hRt hW hQ hb, Option.bind_some, if_neg (by decide), Option.bind_some, if_neg (by decide)]
          simp (disch := omega) only [zi_rd, Option.bind_some, zq hQ]
          rw [if_pos e]
          exact zs_ret ⟨rfl, hQ⟩
        · rw [zm_hRt hW hQ ha, zm_hRf hW hQ h2]
          exact zs_ret ⟨rfl, hQ⟩
      · rw [zm_hRf hW hQ h1]
        exact zs_ret ⟨rfl, hQ⟩
theorem zm_partL {M o s : yb_S} (hW : zW M) (hQ : zQ M o s) {a : Nat} {v : Int32} (ha : a < nR M) : zs_P (l_X12_part_26 (M.1 213 a) v yb_N (zi 0) s) (fun q => q.1 = v ∧ zQ (zHp M (zhp M a)) o q.2) := by
  have hR8 := zw_R8 hW
  unfold l_X12_part_26
  refine zs_up (fun k q => q.1 = zi k ∧ zP q.2 = zHp M (zhk M (zhp M a) k) ∧ zHo q.2 = o) (nR M) ?_ yb_N 0 _ (Nat.zero_le _) (by unfold yb_N; omega) ⟨rfl, by rw [zhk_0, zHp_id]; exact hQ.1, hQ.2.1⟩
  rintro k ⟨x, u⟩ rc hk ⟨i1, i2, i3⟩ hn
  dsimp only at i1 i2 i3
  subst i1
  show zs_P (f_X12_part_26 (fun x4 s => rc (x4, s)) (M.1 213 a) v (zi k) u) _
  unfold f_X12_part_26 j_X12_part_55
  have e36 : u.1 176 36 = zi (nR M) := by
    rw [zrPk i2 (by omega), zHp_c (by decide), zw_R hW]
  have e213 : ∀ r, u.1 213 r = zhk M (zhp M a) k r := fun r => by rw [zrP i2 (by omega), zHp_1]
  rw [e36]
  rcases Nat.lt_or_ge k (nR M) with hlt | hge
  · rw [if_neg (by rw [zi_le (by omega) (by omega)]; omega)]
    simp (disch := omega) only [zi_rd, zi_wr, Option.bind_some, e213, zi_succ]
    rw [show zhk M (zhp M a) k k = M.1 213 k from if_neg (Nat.lt_irrefl _)]
    by_cases e : M.1 213 k = M.1 213 a
    · rw [if_pos e]
      refine hn hlt _ ⟨rfl, ?_, (zHo_pI (by omega)).trans i3⟩
      rw [zP_e (by omega), i2, zHp_w, ← zhk_s, show zhp M a k = zi k from if_pos ⟨hlt, e⟩]
    · rw [if_neg e]
      exact hn hlt _ ⟨rfl, by rw [i2, zhk_same (if_neg (fun q => e q.2))], i3⟩
  · have hkl := Nat.le_antisymm hk hge
    subst hkl
    have hb' : ∀ r, nR M ≤ r → zhp M a r = M.1 213 r := fun r hr => if_neg (fun q => absurd q.1 (by omega))
    rw [if_pos (Int32.le_refl _), Option.bind_some]
    exact zs_ret ⟨rfl, zQ_st ((zP_k0 (by omega)).trans (by rw [i2, zhk_n hb'])) ((zHo_pI (by omega)).trans i3) rfl⟩
theorem zo_partL {M m s : yb_S} (hW : zW M) (hA : zA M m s) {a : Nat} (ha : a < nR M) : zs_P (l_X7_partHeap_22 (M.1 213 a) yb_N (zi 0) (zi 0) s) (fun q => q.1 = zsum (fun r => cond (M.1 213 r == M.1 213 a) 1 0) (nR M) ∧ zA (zHp M (zhp M a)) m q.2) := by
  have hR8 := zw_R8 hW
  have hW' := zHp_W hW (zhp_ok hW (a := a))
  obtain ⟨n1, n2, n3⟩ := zHp_N (M := M) (hp := zhp M a)
  unfold l_X7_partHeap_22
  refine zs_up (fun k q => q.1 = zsum (fun r => cond (M.1 213 r == M.1 213 a) 1 0) k ∧ q.2.1 = zi k ∧ (∀ r, r < nR M → q.2.2.1 48 r = zhk M (zhp M a) k r) ∧ (∀ id, id ≠ 48 → q.2.2.1 id = s.1 id) ∧ q.2.2.2 = s.2) (nR M) ?_ yb_N 0 _ (Nat.zero_le _) (by unfold yb_N; omega) ⟨rfl, rfl, fun r hr => by rw [zhk_0]; exact cq_48 hA hr, fun _ _ => rfl, rfl⟩
  rintro k ⟨x, y, u⟩ rc hk ⟨i1, i2, i3, i4, i5⟩ hn
  dsimp only at i1 i2 i3 i4 i5
  subst i1 i2
  show zs_P (f_X7_partHeap_22 (fun x3 x4 s => rc (x3, x4, s)) _ _ (zi k) u) _
  unfold f_X7_partHeap_22 j_X7_partHeap_54
  rw [i4 41 (by decide), cq_R hA, zw_R hW]
  rcases Nat.lt_or_ge k (nR M) with hlt | hge
  · have ek : u.1 48 k = M.1 213 k := (i3 k hlt).trans (if_neg (Nat.lt_irrefl _))
    rw [if_neg (by rw [zi_le (by omega) (by omega)]; omega), zi_rd (by omega) (by omega), Option.bind_some, ek, zi_wr (by omega) (by omega), Option.bind_some, zi_succ]
    by_cases e : M.1 213 k = M.1 213 a
    · rw [if_pos e]
      have ez : zhp M a k = zi k := if_pos ⟨hlt, e⟩
      refine hn hlt _ ⟨by rw [zsum_succ, e]; simp, rfl, fun r hr => ?_, fun id hid => (zu_nef hid).trans (i4 id hid), i5⟩
      dsimp only
      rw [zu_id, ← zhk_s]
      dsimp only
      by_cases e2 : r = k
      · rw [if_pos e2, if_pos e2, ez]
      · rw [if_neg e2, if_neg e2]
        exact i3 r hr
    · rw [if_neg e]
      have ez : zhp M a k = M.1 213 k := if_neg (fun q => e q.2)
      exact hn hlt _ ⟨by rw [zsum_succ, show (M.1 213 k == M.1 213 a) = false from beq_eq_false_iff_ne.mpr e]; simp, rfl, fun r hr => by rw [← zhk_same ez]; exact i3 r hr, i4, i5⟩
  · have hkl := Nat.le_antisymm hk hge
    subst hkl
    rw [if_pos (Int32.le_refl _)]
    obtain ⟨z1, z2, z3⟩ := zO_48 ⟨i4, i5⟩
    have h48 : ∀ r, r < nR M → (zO u).1 48 r = zhp M a r := fun r hr => (i3 r hr).trans (if_pos hr)
    have hR0 : zR0 (zO u) (zHp M (zhp M a)) := zHp_R (zR_0 hA.1) z1 z2 h48
    have hru : zRr u (zHp M (zhp M a)) := hR0.2.2.2.2.2.1
    refine zs_bind (R := fun w => zfkk u w ∧ zKt (zFinds (zHp M (zhp M a))) (nF (zHp M (zhp M a))) w) ?_ fun w hw => zs_ret ⟨rfl, zR_of (zR0_k hw.1 hR0) (zKt_O hw.2), (zHm_k hw.1).trans (z3.trans hA.2)⟩
    unfold f_X7_findAnew l_X7_findAnew_2
    refine zs_up (fun k q => q.1 = zi k ∧ zfkk u q.2 ∧ ∀ f, f < k → q.2.1 52 f = 0 ∧ q.2.1 53 f = 0) 24 ?_ yb_N 0 _ (Nat.zero_le _) (by decide) ⟨rfl, zfkk_refl u, fun f hf => absurd hf (Nat.not_lt_zero _)⟩
    rintro k ⟨x, w⟩ rc2 hk2 ⟨j1, j2, j3⟩ hn2
    dsimp only at j1 j2 j3
    subst j1
    show zs_P (f_X7_findAnew_2 (fun x1 s => rc2 (x1, s)) (zi k) w) _
    unfold f_X7_findAnew_2
    rcases Nat.lt_or_ge k 24 with hlt | hge
    · rw [show (24 : Int32) = zi 24 from rfl, if_neg (by rw [zi_le (by omega) (by omega)]; omega), zi_wr (by omega) (by omega), Option.bind_some, zi_wr (by omega) (by omega), Option.bind_some, zi_succ]
      refine hn2 hlt _ ⟨rfl, zfkk_w (zfkk_w j2 (Or.inl rfl)) (Or.inr rfl), fun f hf => ?_⟩
      dsimp only
      rw [zu_ne (by decide), zu_id, zu_id, zu_ne (by decide)]
      by_cases e : f = k
      · rw [if_pos e, if_pos e]
        exact ⟨rfl, rfl⟩
      · rw [if_neg e, if_neg e]
        exact j3 f (by omega)
    · have hkl := Nat.le_antisymm hk2 hge
      subst hkl
      rw [if_pos (by decide)]
      have hz0 : ∀ n, zbits (fun q => false) n = 0 := by
        intro n
        induction n with
        | zero => rfl
        | succ n ih =>
          rw [zbits_s, ih]
          simp
      unfold l_X7_findAnew_30
      refine zs_up (fun r q => q.1 = zi r ∧ zfkk u q.2 ∧ zKt (fun f q => zany (fun r => zany (fun k => zHit (zHp M (zhp M a)) f q r k) (nK (zHp M (zhp M a)))) r) (nF (zHp M (zhp M a))) q.2) (nR M) ?_ yb_N 0 _ (Nat.zero_le _) (by unfold yb_N; omega) ⟨rfl, j2, fun f hf => ?_⟩
      · rintro r ⟨x, v⟩ rc3 hr3 ⟨l1, l2, l3⟩ hn3
        dsimp only at l1 l2 l3
        subst l1
        have hrv := zRr_k l2 hru
        show zs_P (f_X7_findAnew_30 (fun x1 s => rc3 (x1, s)) (zi r) v) _
        unfold f_X7_findAnew_30
        rw [hrv.1, zw_R hW', n2]
        rcases Nat.lt_or_ge r (nR M) with hlt | hge
        · rw [if_neg (by rw [zi_le (by omega) (by omega)]; omega)]
          refine zs_bind (zo_note hW' hrv l3 (r := r) (by rw [n2]; exact hlt)) fun z hz => ?_
          rw [zi_succ]
          exact hn3 hlt _ ⟨rfl, zfkk_trans l2 hz.1, hz.2⟩
        · have hkl := Nat.le_antisymm hr3 hge
          subst hkl
          rw [if_pos (Int32.le_refl _)]
          refine zs_ret ⟨l2, fun f hf => ?_⟩
          have := l3 f hf
          have e : ∀ f q, zFinds (zHp M (zhp M a)) f q = zany (fun r => zany (fun k => zHit (zHp M (zhp M a)) f q r k) (nK (zHp M (zhp M a)))) (nR M) := fun f q => by rw [zFinds_a, n2]
          simp only [e]
          exact this
      · have := j3 f hf
        dsimp only
        rw [this.1, this.2]
        simp only [zany, Bool.or_false, Bool.and_false, hz0]
        exact ⟨trivial, trivial⟩
theorem ze_12 : ∀ (a1 : Int32) (s : yb_S), zInv s → ∃ (r : Int32) (s1 s2 : yb_S), f_X11_part a1 s = some (r, s1) ∧ f_X12_part a1 s1 = some (r, s2) ∧ zInv s2 := by
  intro a1 s h
  have hW := h.1
  have hR8 := zw_R8 hW
  by_cases hc : zin a1 (nR (zP s))
  · obtain ⟨a, ha, rfl⟩ := hc
    refine z_call h (zsum (fun r => cond ((zP s).1 213 r == (zP s).1 213 a) 1 0) (nR (zP s))) (zHp (zP s) (zhp (zP s) a)) (fun m t hA => ?_) (fun o t hQ => ?_) (zHp_W hW (zhp_ok hW)) ?_
    · unfold f_X11_part f_X7_partHeap
      rw [zo_hRt hW hA ha, Option.bind_some, if_neg (by decide), zi_rd (by omega) (by omega), Option.bind_some, cq_48 hA ha]
      exact zs_bind (zo_partL hW hA ha) fun q hq => zs_ret hq
    · unfold f_X12_part
      rw [zm_hRt hW hQ ha, Option.bind_some, if_neg (by decide), zi_rd (by omega) (by omega), Option.bind_some, zq hQ (by omega), zm_heapSize hQ.1 (zw_R hW) hR8, Option.bind_some]
      exact zm_partL hW hQ ha
    · rw [zHp_c (by decide)]
      exact z_b58 h
  · refine z_ask h (-1) (fun m t hA => ?_) (fun o t hQ => ?_)
    · unfold f_X11_part f_X7_partHeap
      rw [zo_hRf hW hA hc]
      exact zs_ret ⟨rfl, hA⟩
    · unfold f_X12_part
      rw [zm_hRf hW hQ hc]
      exact zs_ret ⟨rfl, hQ⟩
