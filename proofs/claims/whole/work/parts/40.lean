/-! kin asked -/
theorem zsame_comm : ∀ {n : Nat} {a b : Int32}, zsame n a b = zsame n b a
  | 0, _, _ => rfl
  | n + 1, a, b => by
    show (if yb_rem a 10 = yb_rem b 10 then 1 else 0) + zsame n (a / 10) (b / 10) = (if yb_rem b 10 = yb_rem a 10 then 1 else 0) + zsame n (b / 10) (a / 10)
    rw [zsame_comm (n := n)]
    by_cases e : yb_rem a 10 = yb_rem b 10
    · rw [if_pos e, if_pos e.symm]
    · rw [if_neg e, if_neg (fun q => e q.symm)]
theorem zpts_comm' {n1 n2 : Int32} {b1 b2 : Nat} (h1 : b1 < 1000) (h2 : b2 < 1000) : zpts n1 (zi b1) n2 (zi b2) = zpts n2 (zi b2) n1 (zi b1) := by
  obtain ⟨d, hd, e1, e2⟩ := zabs_zi h1 h2
  unfold zpts
  rw [zsame_comm, e1, e2]
theorem zo_famOf' {M s : yb_S} (hW : zW M) (hr : zRr s M) {r : Nat} : f_X7_familiesOf (M.1 213 r) s = some (zbits (fun q => zOf M r q) (nF M)) := by
  have h8 := zw_F8 hW
  have hR8 := zw_R8 hW
  have e : (fun q => zOf M r q) = fun q => zany (fun x => M.1 212 x == zi q && M.1 213 x == M.1 213 r) (nR M) := funext fun q => zOf_a
  rw [e]
  unfold f_X7_familiesOf l_X7_familiesOf_4
  have key : yb_it (α := Int32 × Int32) (fun rc q => f_X7_familiesOf_4 (fun x2 x3 => rc (x2, x3)) (M.1 213 r) s q.1 q.2) yb_N (zbits (fun q => zany (fun x => M.1 212 x == zi q && M.1 213 x == M.1 213 r) 0) (nF M), zi 0) = some (zbits (fun q => zany (fun x => M.1 212 x == zi q && M.1 213 x == M.1 213 r) (nR M)) (nF M)) := by
    refine zs_upE (fun k => (zbits (fun q => zany (fun x => M.1 212 x == zi q && M.1 213 x == M.1 213 r) k) (nF M), zi k)) (nR M) _ ?_ ?_ yb_N 0 (Nat.zero_le _) (by unfold yb_N; omega)
    · intro k rc hk
      show f_X7_familiesOf_4 _ _ _ (zbits _ _) (zi k) = _
      unfold f_X7_familiesOf_4 j_X7_familiesOf_43
      have q48 := (hr.2.2.1 k hk).2.2.2.2.2.2
      have q47 := (hr.2.2.1 k hk).2.2.2.2.2.1
      rw [hr.1, zw_R hW, if_neg (by rw [zi_le (by omega) (by omega)]; omega)]
      simp (disch := omega) only [zi_rd, Option.bind_some, q48, q47, zi_succ]
      have hno : (∀ q, q < nF M → (M.1 212 k == zi q && M.1 213 k == M.1 213 r) = false) → rc (zbits (fun q => zany (fun x => M.1 212 x == zi q && M.1 213 x == M.1 213 r) k) (nF M), zi (k + 1)) = rc (zbits (fun q => zany (fun x => M.1 212 x == zi q && M.1 213 x == M.1 213 r) (k + 1)) (nF M), zi (k + 1)) := fun hq => by
        congr 2
        refine zbits_congr fun q hqn => ?_
        show _ = (zany (fun x => M.1 212 x == zi q && M.1 213 x == M.1 213 r) k || (M.1 212 k == zi q && M.1 213 k == M.1 213 r))
        rw [hq q hqn, Bool.or_false]
      by_cases e1 : M.1 213 k = M.1 213 r
      · rw [if_pos e1]
        rcases (zw_r hW hk).2.1 with e2 | ⟨g, hg, e2⟩
        · rw [if_pos e2]
          exact hno fun q hq => by rw [e2, zm_ne (by omega)]; rfl
        · rw [e2, if_neg (by rw [show (-1 : Int32) = zm from rfl, zi_eqm (by omega)]; exact id)]
          congr 2
          refine (zbits_set (by omega) hg fun q hq => ?_).symm
          show (zany (fun x => M.1 212 x == zi q && M.1 213 x == M.1 213 r) k || (M.1 212 k == zi q && M.1 213 k == M.1 213 r)) = _
          rw [e1, e2]
          by_cases e3 : q = g
          · subst e3
            simp
          · rw [zm_eqF (by omega) (by omega) e3]
            simp [e3]
      · rw [if_neg e1]
        exact hno fun q hq => by rw [show (M.1 213 k == M.1 213 r) = false from beq_eq_false_iff_ne.mpr e1, Bool.and_false]
    · intro rc
      show f_X7_familiesOf_4 _ _ _ (zbits _ _) (zi (nR M)) = _
      unfold f_X7_familiesOf_4
      rw [hr.1, zw_R hW, if_pos (Int32.le_refl _)]
  have e0 : zbits (fun q => zany (fun x => M.1 212 x == zi q && M.1 213 x == M.1 213 r) 0) (nF M) = 0 := by
    have : ∀ n, zbits (fun q => zany (fun x => M.1 212 x == zi q && M.1 213 x == M.1 213 r) 0) n = 0 := by
      intro n
      induction n with
      | zero => rfl
      | succ n ih =>
        rw [zbits_s, ih]
        simp [zany]
    exact this _
  rw [e0] at key
  exact key
theorem zA_r {M m s : yb_S} (hA : zA M m s) : zRr s M := hA.1.2.2.2.2.2.1
theorem zo_famOf {M m s : yb_S} (hW : zW M) (hA : zA M m s) {r : Nat} : f_X7_familiesOf (M.1 213 r) s = some (zbits (fun q => zOf M r q) (nF M)) := zo_famOf' hW (zA_r hA)
theorem zPt_comm {M : yb_S} (hW : zW M) {r k : Nat} (hr : r < nR M) (hk : k < nK M) : zpts (M.1 208 r) (M.1 209 r) (M.1 215 k) (M.1 216 k) = zPt M k r := by
  obtain ⟨b, hb, e1⟩ := (zw_r hW hr).1
  obtain ⟨c, hc, e2⟩ := (zw_k hW hk).2
  unfold zPt
  rw [e1, e2]
  exact zpts_comm' (by omega) (by omega)
def zDn2 (k0 r0 : Nat) : Nat → Nat → Nat → Prop := fun r _ k => k < k0 ∨ (k = k0 ∧ r < r0)
theorem zSp_sure {M : yb_S} {f o : Nat} {v : Int32} {P : Nat → Nat → Nat → Prop} (hP : ∀ r k, r < nR M → k < nK M → P r o k) (h : zSp M P f o v) : zSure M f o v := by
  rcases h with ⟨e, h⟩ | ⟨e, ⟨r, hr, k, hk, h1, h2, h3⟩, h4⟩
  · refine Or.inl ⟨e, ?_⟩
    rw [zFinds_a]
    exact zany_f.mpr fun r hr => zany_f.mpr fun k hk => h r hr k hk (hP r k hr hk)
  · exact Or.inr ⟨e, ⟨r, hr, k, hk, h2, h3⟩, fun r hr k hk hh => h4 r hr k hk (hP r k hr hk) hh⟩
theorem zSure_uniq {M : yb_S} {f o : Nat} {v w : Int32} (h1 : zSure M f o v) (h2 : zSure M f o w) : v = w := by
  have hno : ∀ {r k}, r < nR M → k < nK M → zHit M f o r k = true → zFinds M f o = false → False := fun hr hk hh hf => by
    rw [zFinds_a] at hf
    have := zany_f.mp (zany_f.mp hf _ hr) _ hk
    rw [hh] at this
    cases this
  rcases h1 with ⟨e1, n1⟩ | ⟨e1, ⟨r, hr, k, hk, a1, a2⟩, a3⟩
  · rcases h2 with ⟨e2, n2⟩ | ⟨e2, ⟨r, hr, k, hk, b1, b2⟩, b3⟩
    · rw [e1, e2]
    · exact (hno hr hk b1 n1).elim
  · rcases h2 with ⟨e2, n2⟩ | ⟨e2, ⟨r', hr', k', hk', b1, b2⟩, b3⟩
    · exact (hno hr hk a1 n2).elim
    · exact Int32.le_antisymm (by rw [← a2]; exact b3 r hr k hk a1) (by rw [← b2]; exact a3 r' hr' k' hk' b1)
theorem zo_surely {M m s : yb_S} (hW : zW M) (hA : zA M m s) {f o : Nat} (hf : f < nF M) (ho : o < nF M) : zs_P (f_X7_howSurely (zi f) (zi o) s) (fun v => zSure M f o v) := by
  have h8 := zw_F8 hW
  have hR8 := zw_R8 hW
  have hK8 := zw_K8 hW
  unfold f_X7_howSurely l_X7_howSurely_5
  refine zs_mono (R := fun v => zSp M (zDn2 (nK M) 0) f o v) ?_ (fun v hv => zSp_sure (fun r k _ hk => Or.inl hk) hv)
  refine zs_up (fun k q => q.2 = zi k ∧ zSp M (zDn2 k 0) f o q.1) (nK M) ?_ yb_N 0 _ (Nat.zero_le _) (by unfold yb_N; omega) ⟨rfl, Or.inl ⟨rfl, fun r hr k hk hp => by unfold zDn2 at hp; omega⟩⟩
  rintro k0 ⟨x, y⟩ rc hk ⟨i1, i2⟩ hn
  dsimp only at i1 i2
  subst i1
  show zs_P (f_X7_howSurely_5 (fun x3 x4 => rc (x3, x4)) (zi f) (zi o) s x (zi k0)) _
  unfold f_X7_howSurely_5
  rw [cq_K hA, zw_K hW]
  rcases Nat.lt_or_ge k0 (nK M) with hlt | hge
  · rw [if_neg (by rw [zi_le (by omega) (by omega)]; omega)]
    obtain ⟨⟨g, hg, eg⟩, -⟩ := zw_k hW hlt
    unfold l_X7_howSurely_17
    refine zs_up (fun r q => q.2 = zi r ∧ zSp M (zDn2 k0 r) f o q.1) (nR M) ?_ yb_N 0 _ (Nat.zero_le _) (by unfold yb_N; omega) ⟨rfl, i2⟩
    rintro r0 ⟨x, y⟩ rc2 hr ⟨j1, j2⟩ hn2
    dsimp only at j1 j2
    subst j1
    show zs_P (f_X7_howSurely_17 (fun x3 x4 => rc (x3, x4)) (fun x3 x5 => rc2 (x3, x5)) (zi f) (zi o) (zi k0) s x (zi r0)) _
    unfold f_X7_howSurely_17 j_X7_howSurely_99 j_X7_howSurely_93
    rw [cq_R hA, zw_R hW]
    rcases Nat.lt_or_ge r0 (nR M) with hlr | hgr
    · rw [if_neg (by rw [zi_le (by omega) (by omega)]; omega), zi_rd (by omega) (by omega), Option.bind_some, cq_49 hA hlt, eg]
      by_cases e1 : zi g = zi f
      · rw [if_pos e1, zi_rd (by omega) (by omega), Option.bind_some, zi_rd (by omega) (by omega), Option.bind_some, cq_50 hA hlt, cq_51 hA hlt]
        rw [zo_pts ((cq_R hA).trans (zw_R hW)) hR8 hlr, Option.bind_some, cq_43 hA hlr, cq_44 hA hlr, zi_rd (by omega) (by omega), Option.bind_some, cq_48 hA hlr, zo_famOf hW hA, Option.bind_some]
        have ept : zpts (M.1 208 r0) (M.1 209 r0) (M.1 215 k0) (M.1 216 k0) = zPt M k0 r0 := zPt_comm hW hlr hlt
        rw [ept, zi_succ, zbits_at (by omega) (by omega)]
        have hnext : (∀ (hh : zHit M f o r0 k0 = true), False) → zSp M (zDn2 k0 (r0 + 1)) f o x := fun hno => by
          refine zSp_congr (fun r hr k hk hh => ?_) j2
          unfold zDn2
          by_cases e : k = k0 ∧ r = r0
          · obtain ⟨rfl, rfl⟩ := e
            exact (hno hh).elim
          · omega
        by_cases h5 : zPt M k0 r0 < 5
        · rw [if_pos h5]
          exact hn2 hlr _ ⟨rfl, hnext fun hh => absurd (zHit_t.mp hh).2.1 (Int32.not_le.mpr h5)⟩
        · rw [if_neg h5]
          have h5 := Int32.not_lt.mp h5
          by_cases hle : zPt M k0 r0 ≤ x
          · rw [if_pos hle]
            refine hn2 hlr _ ⟨rfl, ?_⟩
            rcases j2 with ⟨q1, q2⟩ | ⟨q1, ⟨r1, hr1, k1, hk1, a1, a2, a3⟩, q3⟩
            · rw [q1] at hle
              exact absurd (Int32.le_trans h5 hle) (by decide)
            · refine Or.inr ⟨q1, ⟨r1, hr1, k1, hk1, ?_, a2, a3⟩, fun r hr k hk hp hh => ?_⟩
              · unfold zDn2 at a1 ⊢
                omega
              · by_cases e2 : r = r0 ∧ k = k0
                · obtain ⟨rfl, rfl⟩ := e2
                  exact hle
                · exact q3 r hr k hk (by unfold zDn2 at hp ⊢; omega) hh
          · rw [if_neg hle]
            by_cases hof : zOf M r0 o = true
            · rw [if_pos (show (if o < nF M ∧ zOf M r0 o = true then (1 : Int32) else 0) = 1 from if_pos ⟨ho, hof⟩)]
              have hH : zHit M f o r0 k0 = true := zHit_t.mpr ⟨eg.trans e1, h5, hof⟩
              refine hn2 hlr _ ⟨rfl, Or.inr ⟨h5, ⟨r0, hlr, k0, hlt, by unfold zDn2; omega, hH, rfl⟩, fun r hr k hk hp hh => ?_⟩⟩
              by_cases e2 : r = r0 ∧ k = k0
              · obtain ⟨rfl, rfl⟩ := e2
                exact Int32.le_refl _
              · have hp2 : zDn2 k0 r0 r o k := by
                  unfold zDn2 at hp ⊢
                  omega
                have hlt2 := Int32.le_of_lt (Int32.not_le.mp hle)
                rcases j2 with ⟨q1, q2⟩ | ⟨q1, q2, q3⟩
                · rw [q2 r hr k hk hp2] at hh
                  cases hh
                · exact Int32.le_trans (q3 r hr k hk hp2 hh) hlt2
            · rw [if_neg (show ¬ (if o < nF M ∧ zOf M r0 o = true then (1 : Int32) else 0) = 1 by rw [if_neg (fun q => hof q.2)]; decide)]
              exact hn2 hlr _ ⟨rfl, hnext fun hh => hof (zHit_t.mp hh).2.2⟩
      · rw [if_neg e1, zi_succ]
        refine hn hlt _ ⟨rfl, zSp_congr (fun r hr k hk hh => ?_) j2⟩
        unfold zDn2
        by_cases e : k = k0
        · subst e
          exact absurd ((eg.symm.trans (zHit_t.mp hh).1)) e1
        · omega
    · have hkl := Nat.le_antisymm hr hgr
      subst hkl
      rw [if_pos (Int32.le_refl _), zi_succ]
      refine hn hlt _ ⟨rfl, zSp_congr (fun r hr k hk hh => ?_) j2⟩
      unfold zDn2
      omega
  · have hkl := Nat.le_antisymm hk hge
    subst hkl
    rw [if_pos (Int32.le_refl _)]
    exact zs_ret i2
theorem ze_15 : ∀ (a1 a2 : Int32) (s : yb_S), zInv s → ∃ (r : Int32) (s1 s2 : yb_S), (f_X11_finds a1 a2 s = some r ∧ s1 = s) ∧ f_X12_finds a1 a2 s1 = some (r, s2) ∧ zInv s2 := by
  intro a1 a2 s h
  have hW := h.1
  have h8 := zw_F8 hW
  by_cases hc : ∃ f q, f < nF (zP s) ∧ q < nF (zP s) ∧ a1 = zi f ∧ a2 = zi q
  · obtain ⟨f, q, hf, hq, rfl, rfl⟩ := hc
    by_cases e : f = q
    · subst e
      refine z_ask1 (A := f_X11_finds (zi f) (zi f)) (B := f_X12_finds (zi f) (zi f)) h (-1) (fun m t hA => ?_) (fun o t hQ => ?_)
      · unfold f_X11_finds
        rw [zo_hFt hW hA hf, Option.bind_some, if_neg (by decide), Option.bind_some, if_neg (by decide), if_pos rfl]
      · unfold f_X12_finds
        rw [zm_hFt hW hQ hf, Option.bind_some, if_neg (by decide), Option.bind_some, if_neg (by decide)]
        exact zs_bind (zm_surely hW hQ hf hf) fun a ha => zs_ret ⟨ha.1.1 rfl, zK_Q ha.2 hQ⟩
    · obtain ⟨v, -, hv⟩ := zo_surely hW (M := zP s) (m := zHm s) (s := s) ⟨h.2.1, rfl⟩ hf hq
      refine z_ask1 (A := f_X11_finds (zi f) (zi q)) (B := f_X12_finds (zi f) (zi q)) h v (fun m t hA => ?_) (fun o t hQ => ?_)
      · unfold f_X11_finds
        obtain ⟨w, ew, hw⟩ := zo_surely hW hA hf hq
        rw [zo_hFt hW hA hf, zo_hFt hW hA hq, Option.bind_some, if_neg (by decide), Option.bind_some, if_neg (by decide), if_neg (by rw [zi_inj (by omega) (by omega)]; exact e), ew, zSure_uniq hw hv]
        rfl
      · unfold f_X12_finds
        rw [zm_hFt hW hQ hf, zm_hFt hW hQ hq, Option.bind_some, if_neg (by decide), Option.bind_some, if_neg (by decide)]
        exact zs_bind (zm_surely hW hQ hf hq) fun a ha => zs_ret ⟨zSure_uniq (ha.1.2 e) hv, zK_Q ha.2 hQ⟩
  · refine z_ask1 (A := f_X11_finds a1 a2) (B := f_X12_finds a1 a2) h (-1) (fun m t hA => ?_) (fun o t hQ => ?_)
    · unfold f_X11_finds
      by_cases hf : zin a1 (nF (zP s))
      · obtain ⟨f, hf, rfl⟩ := hf
        rw [zo_hFt hW hA hf, zo_hFf hW hA (fun ⟨q, hq, e⟩ => hc ⟨f, q, hf, hq, rfl, e⟩)]
        rfl
      · rw [zo_hFf hW hA hf]
        rfl
    · unfold f_X12_finds
      by_cases hf : zin a1 (nF (zP s))
      · obtain ⟨f, hf, rfl⟩ := hf
        rw [zm_hFt hW hQ hf, zm_hFf hW hQ (fun ⟨q, hq, e⟩ => hc ⟨f, q, hf, hq, rfl, e⟩)]
        exact zs_ret ⟨rfl, hQ⟩
      · rw [zm_hFf hW hQ hf]
        exact zs_ret ⟨rfl, hQ⟩
theorem ze_16 : ∀ (a1 : Int32) (s : yb_S), zInv s → ∃ (r : Int32) (s1 s2 : yb_S), (f_X11_kin a1 s = some r ∧ s1 = s) ∧ f_X12_kin a1 s1 = some (r, s2) ∧ zInv s2 := by
  intro a1 s h
  have hW := h.1
  have h8 := zw_F8 hW
  by_cases hf : zin a1 (nF (zP s))
  · obtain ⟨f, hf, rfl⟩ := hf
    refine z_ask1 (A := f_X11_kin (zi f)) (B := f_X12_kin (zi f)) h (zbits (fun q => zKin (zP s) f q) (nF (zP s))) (fun m t hA => ?_) (fun o t hQ => ?_)
    · unfold f_X11_kin
      rw [zo_hFt hW hA hf, Option.bind_some, if_neg (by decide), zi_rd (by omega) (by omega), Option.bind_some, cq_53 hA (by omega)]
    · unfold f_X12_kin l_X12_kin_14
      rw [zm_hFt hW hQ hf, Option.bind_some, if_neg (by decide)]
      refine zs_up (fun k a => a.1 = zbits (fun q => zKin (zP s) f q) k ∧ a.2.1 = zi k ∧ zK t a.2.2) (nF (zP s)) ?_ yb_N 0 _ (Nat.zero_le _) (by unfold yb_N; omega) ⟨rfl, rfl, zK_refl t⟩
      rintro k ⟨x, y, u⟩ rc hk ⟨i1, i2, i3⟩ hn
      dsimp only at i1 i2 i3
      subst i1 i2
      have hQu := zK_Q i3 hQ
      show zs_P (f_X12_kin_14 (fun x2 x3 s => rc (x2, x3, s)) _ _ (zi k) u) _
      unfold f_X12_kin_14 j_X12_kin_43 j_X12_kin_44
      rw [zqk hQu (by omega), zw_F hW]
      rcases Nat.lt_or_ge k (nF (zP s)) with hlt | hge
      · rw [if_neg (by rw [zi_le (by omega) (by omega)]; omega)]
        by_cases e : k = f
        · subst e
          rw [if_pos rfl, zi_succ]
          refine hn hlt _ ⟨?_, rfl, i3⟩
          rw [zbits_s, zKin_self]
          rfl
        · rw [if_neg (by rw [zi_inj (by omega) (by omega)]; exact e)]
          refine zs_bind (zm_areKin hW hQu hf hlt) fun b hb => ?_
          rw [hb.1]
          simp only [zb_t0]
          cases h1 : zKin (zP s) f k
          · rw [if_pos rfl, zi_succ]
            refine hn hlt _ ⟨?_, rfl, zK_trans i3 hb.2⟩
            rw [zbits_s, h1]
            rfl
          · rw [if_neg (by decide), zi_succ]
            refine hn hlt _ ⟨?_, rfl, zK_trans i3 hb.2⟩
            rw [zbits_s, h1]
            rfl
      · have hkl := Nat.le_antisymm hk hge
        subst hkl
        rw [if_pos (Int32.le_refl _)]
        exact zs_ret ⟨rfl, hQu⟩
  · refine z_ask1 (A := f_X11_kin a1) (B := f_X12_kin a1) h (-1) (fun m t hA => ?_) (fun o t hQ => ?_)
    · unfold f_X11_kin
      rw [zo_hFf hW hA hf]
      rfl
    · unfold f_X12_kin
      rw [zm_hFf hW hQ hf]
      exact zs_ret ⟨rfl, hQ⟩
def zMu (M : yb_S) (f q : Nat) : Bool := (f != q) && (zFinds M f q && zFinds M q f)
theorem ze_17 : ∀ (a1 : Int32) (s : yb_S), zInv s → ∃ (r : Int32) (s1 s2 : yb_S), (f_X11_mutual a1 s = some r ∧ s1 = s) ∧ f_X12_mutual a1 s1 = some (r, s2) ∧ zInv s2 := by
  intro a1 s h
  have hW := h.1
  have h8 := zw_F8 hW
  by_cases hf : zin a1 (nF (zP s))
  · obtain ⟨f, hf, rfl⟩ := hf
    refine z_ask1 (A := f_X11_mutual (zi f)) (B := f_X12_mutual (zi f)) h (zbits (fun q => zMu (zP s) f q) (nF (zP s))) (fun m t hA => ?_) (fun o t hQ => ?_)
    · unfold f_X11_mutual f_X7_mutualOf l_X7_mutualOf_4
      rw [zo_hFt hW hA hf, Option.bind_some, if_neg (by decide), zbits_up (m := 24) (by decide) h8]
      have key : yb_it (α := Int32 × Int32) (fun rc q => f_X7_mutualOf_4 (fun x2 x3 => rc (x2, x3)) (zi f) t q.1 q.2) yb_N ((0 : Int32), zi 0) = some (zbits (fun k => decide (k < nF (zP s)) && zMu (zP s) f k) 24) := by
        refine zs_upE (fun k => (zbits (fun k => decide (k < nF (zP s)) && zMu (zP s) f k) k, zi k)) 24 _ ?_ ?_ yb_N 0 (Nat.zero_le _) (by decide)
        · intro k rc hk
          show f_X7_mutualOf_4 _ _ _ (zbits _ k) (zi k) = _
          unfold f_X7_mutualOf_4 j_X7_mutualOf_44
          rw [show (24 : Int32) = zi 24 from rfl, if_neg (by rw [zi_le (by omega) (by omega)]; omega), zi_rd (by omega) (by omega), Option.bind_some, zi_rd (by omega) (by omega), Option.bind_some, cq_52 hA (by omega), cq_52 hA (by omega), zbits_at (by omega) (by omega), zbits_at (by omega) (by omega), zi_succ]
          have es : zbits (fun k => decide (k < nF (zP s)) && zMu (zP s) f k) (k + 1) = zbits (fun k => decide (k < nF (zP s)) && zMu (zP s) f k) k ||| (if (decide (k < nF (zP s)) && zMu (zP s) f k) = true then (1 : Int32) <<< (zi k &&& 31) else 0) := zbits_s
          by_cases c1 : k < nF (zP s) ∧ (f != k && zFinds (zP s) f k) = true
          · by_cases c2 : f < nF (zP s) ∧ (k != f && zFinds (zP s) k f) = true
            · rw [if_pos (show (if k < nF (zP s) ∧ (f != k && zFinds (zP s) f k) = true then (1 : Int32) else 0) = 1 from if_pos c1), if_pos (show (if f < nF (zP s) ∧ (k != f && zFinds (zP s) k f) = true then (1 : Int32) else 0) = 1 from if_pos c2), es]
              have c3 : (decide (k < nF (zP s)) && zMu (zP s) f k) = true := by
                simp only [Bool.and_eq_true] at c1 c2
                unfold zMu
                rw [c1.2.1, c1.2.2, c2.2.2, decide_eq_true c1.1]
                rfl
              rw [if_pos c3]
            · rw [if_pos (show (if k < nF (zP s) ∧ (f != k && zFinds (zP s) f k) = true then (1 : Int32) else 0) = 1 from if_pos c1), if_neg (show ¬ (if f < nF (zP s) ∧ (k != f && zFinds (zP s) k f) = true then (1 : Int32) else 0) = 1 by rw [if_neg c2]; decide), es]
              have c3 : ¬ (decide (k < nF (zP s)) && zMu (zP s) f k) = true := fun q => c2 ⟨hf, by
                unfold zMu at q
                simp only [Bool.and_eq_true, bne_iff_ne] at q ⊢
                exact ⟨Ne.symm q.2.1, q.2.2.2⟩⟩
              rw [if_neg c3, Int32.or_zero]
          · rw [if_neg (show ¬ (if k < nF (zP s) ∧ (f != k && zFinds (zP s) f k) = true then (1 : Int32) else 0) = 1 by rw [if_neg c1]; decide), es]
            have c3 : ¬ (decide (k < nF (zP s)) && zMu (zP s) f k) = true := fun q => c1 (by
              unfold zMu at q
              simp only [Bool.and_eq_true, decide_eq_true_eq] at q ⊢
              exact ⟨q.1, q.2.1, q.2.2.1⟩)
            rw [if_neg c3, Int32.or_zero]
        · intro rc
          show f_X7_mutualOf_4 _ _ _ (zbits _ 24) (zi 24) = _
          unfold f_X7_mutualOf_4
          rw [if_pos (by decide)]
      have key : yb_it (α := Int32 × Int32) (fun rc q => f_X7_mutualOf_4 (fun x2 x3 => rc (x2, x3)) (zi f) t q.1 q.2) yb_N ((0 : Int32), 0) = _ := key
      rw [key]
      rfl
    · unfold f_X12_mutual l_X12_mutual_14
      rw [zm_hFt hW hQ hf, Option.bind_some, if_neg (by decide)]
      refine zs_up (fun k a => a.1 = zbits (fun q => zMu (zP s) f q) k ∧ a.2.1 = zi k ∧ zK t a.2.2) (nF (zP s)) ?_ yb_N 0 _ (Nat.zero_le _) (by unfold yb_N; omega) ⟨rfl, rfl, zK_refl t⟩
      rintro k ⟨x, y, u⟩ rc hk ⟨i1, i2, i3⟩ hn
      dsimp only at i1 i2 i3
      subst i1 i2
      have hQu := zK_Q i3 hQ
      show zs_P (f_X12_mutual_14 (fun x2 x3 s => rc (x2, x3, s)) _ _ (zi k) u) _
      unfold f_X12_mutual_14 j_X12_mutual_54 j_X12_mutual_55
      rw [zqk hQu (by omega), zw_F hW]
      rcases Nat.lt_or_ge k (nF (zP s)) with hlt | hge
      · have hst : ∀ v, zK t v → zMu (zP s) f k = false → zs_P (rc (zbits (fun q => zMu (zP s) f q) k ||| 0, zi k + 1, v)) (fun q => q.1 = zbits (fun q => zMu (zP s) f q) (nF (zP s)) ∧ zQ (zP s) o q.2) := fun v hv hz => by
          rw [zi_succ]
          exact hn hlt _ ⟨by rw [zbits_s, hz]; rfl, rfl, hv⟩
        rw [if_neg (by rw [zi_le (by omega) (by omega)]; omega)]
        by_cases e : k = f
        · subst e
          rw [if_pos rfl]
          exact hst u i3 (by unfold zMu; simp)
        · rw [if_neg (by rw [zi_inj (by omega) (by omega)]; exact e)]
          refine zs_bind (zm_surely hW hQu hf hlt) fun a ha => ?_
          have m1 := zSurely_m ha.1 (Ne.symm e)
          have hma := zK_trans i3 ha.2
          cases h1 : zFinds (zP s) f k
          · rw [if_pos (m1.mpr h1)]
            exact hst _ hma (by unfold zMu; rw [h1]; simp)
          · rw [if_neg (fun q => by rw [m1.mp q] at h1; cases h1)]
            refine zs_bind (zm_surely hW (zK_Q hma hQ) hlt hf) fun b hb => ?_
            have m2 := zSurely_m hb.1 e
            have hmb := zK_trans hma hb.2
            cases h2 : zFinds (zP s) k f
            · rw [if_pos (m2.mpr h2)]
              exact hst _ hmb (by unfold zMu; rw [h2]; simp)
            · rw [if_neg (fun q => by rw [m2.mp q] at h2; cases h2), zi_succ]
              refine hn hlt _ ⟨?_, rfl, hmb⟩
              rw [zbits_s, show zMu (zP s) f k = true by unfold zMu; rw [h1, h2]; simp [Ne.symm e]]
              rfl
      · have hkl := Nat.le_antisymm hk hge
        subst hkl
        rw [if_pos (Int32.le_refl _)]
        exact zs_ret ⟨rfl, hQu⟩
  · refine z_ask1 (A := f_X11_mutual a1) (B := f_X12_mutual a1) h (-1) (fun m t hA => ?_) (fun o t hQ => ?_)
    · unfold f_X11_mutual
      rw [zo_hFf hW hA hf]
      rfl
    · unfold f_X12_mutual
      rw [zm_hFf hW hQ hf]
      exact zs_ret ⟨rfl, hQ⟩
