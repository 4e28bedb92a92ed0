/-! a family comes -/
theorem zTown_fam {M M' : yb_S} {n : Nat} (hW : zW M) (hn : n = nF M) (m195 : ∀ k, M'.1 195 k = if k = n then 0 else M.1 195 k) (m196 : ∀ k, M'.1 196 k = if k = n then -1 else M.1 196 k) (m183 : ∀ k, M'.1 183 k = M.1 183 k) : (∀ f, f < n → zTown M' f = zTown M f) ∧ zTown M' n = -1 := by
  have h9 := zw_H8 hW
  refine ⟨fun f hf => ?_, zTown_0 (by rw [m195, if_pos rfl]; decide)⟩
  rcases zTown_in hW (f := f) (by omega) with ⟨e1, e2, -⟩ | ⟨u, hu, e1, e2, h, hh, e3, e4⟩
  · rw [e1, zTown_0 (by rw [m195, if_neg (by omega)]; exact e2)]
  · rw [e1, zTown_1 (by rw [m195, if_neg (by omega)]; exact e2) (by rw [m196, if_neg (by omega)]; exact e3) (by omega), m183, e4]
theorem zm_ne {T : Nat} (hT : T < 2147483648) : ((-1 : Int32) == zi T) = false := beq_eq_false_iff_ne.mpr (by rw [ne_eq, show ((-1 : Int32) = zi T) = False from zi_meq hT]; exact id)
theorem zRc_fam {o o' M M' : yb_S} {n x : Nat} (hW : zW M) (hR : zRc o M) (hn : n = nF M) (m27 : nF M' = n + 1) (m15 : nH M' = nH M) (m195 : ∀ k, M'.1 195 k = if k = n then 0 else M.1 195 k) (m196 : ∀ k, M'.1 196 k = if k = n then -1 else M.1 196 k) (m189 : ∀ k, k < n → M'.1 189 k = M.1 189 k) (m190 : ∀ k, k < n → M'.1 190 k = M.1 190 k) (m183 : ∀ k, M'.1 183 k = M.1 183 k) (m184 : ∀ k, M'.1 184 k = M.1 184 k) (o30 : ∀ k, o'.1 30 k = if k = n then -1 else o.1 30 k) (oo : ∀ id k, id = 8 ∨ id = 9 ∨ id = 10 ∨ id = 11 ∨ id = 20 → o'.1 id k = o.1 id k) : zRc o' M' := by
  obtain ⟨eT, eN⟩ := zTown_fam hW hn m195 m196 m183
  have h8 := zw_F8 hW
  obtain ⟨r1, r2, r3⟩ := hR
  refine ⟨fun T hT => ?_, fun h hh => ?_, fun f hf => ?_⟩
  · obtain ⟨q1, q2, q3, q4⟩ := r1 T hT
    have hz := zm_ne (T := T) (by omega)
    refine ⟨?_, ?_, ?_, ?_⟩
    · rw [oo 8 T (by omega), q1]
      unfold zRooms
      rw [m15]
      exact (zsum_congr fun k hk => by rw [m183, m184]).symm
    · rw [oo 9 T (by omega), q2]
      unfold zHeads
      rw [m27, zsum_succ, eN, hz, ← hn]
      have e : zsum (fun f => cond (zTown M' f == zi T) (M'.1 189 f) 0) n = zsum (fun f => cond (zTown M f == zi T) (M.1 189 f) 0) n := zsum_congr fun k hk => by rw [eT k hk, m189 k hk]
      rw [e]
      simp
    · rw [oo 10 T (by omega), q3]
      unfold zPup
      rw [m27, zsum_succ, eN, hz, ← hn]
      have e : zsum (fun f => cond (zi f != -1 && zTown M' f == zi T) (M'.1 190 f) 0) n = zsum (fun f => cond (zi f != -1 && zTown M f == zi T) (M.1 190 f) 0) n := zsum_congr fun k hk => by rw [eT k hk, m190 k hk]
      rw [e]
      simp
    · rw [oo 11 T (by omega), q4]
      unfold zLodg
      rw [m27, zbits_s, eN, hz, ← hn]
      have e : zbits (fun f => zTown M' f == zi T) n = zbits (fun f => zTown M f == zi T) n := zbits_congr fun k hk => by rw [eT k hk]
      rw [e]
      simp
  · rw [m15] at hh
    rw [oo 20 h (by omega), r2 h hh]
    unfold zLodger
    rw [m27, ← hn]
    congr 1
    show _ = (match zfind (fun f => M'.1 195 f == 1 && M'.1 196 f == zi h) n with | some k => some k | none => if (M'.1 195 n == 1 && M'.1 196 n == zi h) then some n else none)
    have e : zfind (fun f => M'.1 195 f == 1 && M'.1 196 f == zi h) n = zfind (fun f => M.1 195 f == 1 && M.1 196 f == zi h) n := zfind_congr fun k hk => by rw [m195, m196, if_neg (by omega), if_neg (by omega)]
    rw [e, m195, if_pos rfl]
    cases zfind (fun f => M.1 195 f == 1 && M.1 196 f == zi h) n <;> rfl
  · rw [m27] at hf
    rw [o30]
    by_cases e : f = n
    · rw [if_pos e, e, eN]
    · rw [if_neg e, eT f (by omega)]
      exact r3 f (by omega)
theorem zFinds_fam {M M' : yb_S} {n : Nat} (hW : zW M) (hn : n = nF M) (ms : ∀ id k, 207 ≤ id → id < 217 → M'.1 id k = M.1 id k) (m36 : nR M' = nR M) (m40 : nK M' = nK M) : (∀ f q, zFinds M' f q = zFinds M f q) ∧ (∀ f, zFinds M f n = false) ∧ ∀ q, zFinds M n q = false := by
  have h8 := zw_F8 hW
  refine ⟨fun f q => ?_, fun f => ?_, fun q => ?_⟩
  · have hH : ∀ r k, zHit M' f q r k = zHit M f q r k := fun r k => by
      simp only [zHit, zOf, m36, ms 214 _ (by omega) (by omega), ms 215 _ (by omega) (by omega), ms 216 _ (by omega) (by omega), ms 208 _ (by omega) (by omega), ms 209 _ (by omega) (by omega), ms 212 _ (by omega) (by omega), ms 213 _ (by omega) (by omega)]
    unfold zFinds
    rw [m36, m40]
    simp only [hH]
  · rw [zFinds_a]
    refine zany_f.mpr fun r hr => zany_f.mpr fun k hk => ?_
    cases e : zHit M f n r k
    · rfl
    · have e2 := (zHit_t.mp e).2.2
      rw [zOf_a] at e2
      obtain ⟨x, hx, e3⟩ := zany_t.mp e2
      simp only [Bool.and_eq_true, beq_iff_eq] at e3
      rcases (zw_r hW hx).2.1 with q | ⟨g, hg, q⟩
      · rw [q] at e3
        exact absurd e3.1 (by rw [show ((-1 : Int32) = zi n) = False from zi_meq (by omega)]; exact id)
      · rw [q, zi_inj (by omega) (by omega)] at e3
        omega
  · rw [zFinds_a]
    refine zany_f.mpr fun r hr => zany_f.mpr fun k hk => ?_
    cases e : zHit M n q r k
    · rfl
    · have e2 := (zHit_t.mp e).1
      obtain ⟨g, hg, e3⟩ := (zw_k hW hk).1
      rw [e3, zi_inj (by omega) (by omega)] at e2
      omega
theorem zDayH_fam {M M' : yb_S} {n d D : Nat} {k : Int32} (hn : n = nF M) (m27 : nF M' = n + 1) (m189 : ∀ k, k < n → M'.1 189 k = M.1 189 k) (m198 : ∀ k, M'.1 198 k = if k = n then zi D else M.1 198 k) (m367 : ∀ f, M'.1 (367 + f % 24) d = M.1 (367 + f % 24) d) (hd : d < D) (hD : D ≤ 200) : zDayH M' d k = zDayH M d k := by
  have hdn : zle (zi D) (zi d) = false := zle_f.mpr (by rw [zi_lt (by omega) (by omega)]; exact hd)
  have e : zsum (fun f => cond (zle (M'.1 198 f) (zi d) && (k == 3 || zOn (M'.1 (367 + f % 24) d) == k)) (M'.1 189 f) 0) n = zsum (fun f => cond (zle (M.1 198 f) (zi d) && (k == 3 || zOn (M.1 (367 + f % 24) d) == k)) (M.1 189 f) 0) n := zsum_congr fun f hf => by rw [m198, if_neg (by omega), m367, m189 f hf]
  unfold zDayH
  rw [m27, zsum_succ, e, m198, if_pos rfl, hdn, ← hn]
  simp
theorem zThere_fam {M M' : yb_S} {n : Nat} {x : Int32} (hn : n = nF M) (m27 : nF M' = n + 1) (m189 : ∀ k, M'.1 189 k = if k = n then x else M.1 189 k) (m195 : ∀ k, M'.1 195 k = if k = n then 0 else M.1 195 k) : zThere M' = zThere M + x := by
  have e : zsum (fun f => cond (M'.1 195 f == 2) 0 (M'.1 189 f)) n = zsum (fun f => cond (M.1 195 f == 2) 0 (M.1 189 f)) n := zsum_congr fun f hf => by rw [m195, if_neg (by omega), m189, if_neg (by omega)]
  unfold zThere
  rw [m27, zsum_succ, e, m195, if_pos rfl, m189, if_pos rfl, ← hn]
  rfl
theorem zbits_snoc {p : Nat → Bool} {n : Nat} (h : p n = false) : zbits p (n + 1) = zbits p n := by
  rw [zbits_s, h]
  simp
theorem zk_family {o M : yb_S} {n x c : Nat} {y z u v : Int32} (hn : n = nF M) (h8 : n < 24) (hx : x < 10) (hc : c < 6) (hW : zW M) (hR : zR o M) : zW (yb_pI (yb_pI (yb_pI (yb_pI (yb_pI (yb_pI (yb_pI (yb_pI (yb_pI (yb_pI (yb_pI M 189 n (zi x)) 190 n y) 191 n z) 192 n u) 193 n v) 194 n (zi c)) 195 n 0) 196 n (-1)) 198 n (zi (nD M))) 199 n (-1)) 176 27 (zi (n + 1))) ∧ zR (yb_pI (yb_pI (yb_pI (yb_pI (yb_pI (yb_pI (yb_pI (yb_pI (yb_pI (yb_pI (yb_pI (yb_pI (yb_pI (yb_pI o 22 n (zi x)) 23 n y) 24 n z) 25 n u) 26 n v) 27 n (zi c)) 28 n 0) 29 n (-1)) 30 n (-1)) 31 n 0) 32 n (zi (nD M))) 33 n (-1)) 21 0 (zi (n + 1))) 1 7 (o.1 1 7 + zi x)) (yb_pI (yb_pI (yb_pI (yb_pI (yb_pI (yb_pI (yb_pI (yb_pI (yb_pI (yb_pI (yb_pI M 189 n (zi x)) 190 n y) 191 n z) 192 n u) 193 n v) 194 n (zi c)) 195 n 0) 196 n (-1)) 198 n (zi (nD M))) 199 n (-1)) 176 27 (zi (n + 1))) := by
  obtain ⟨w1, w2, w3, w4, w5, w6, w7, w8, w9, w10, w11, w12, w13, w14⟩ := hW
  obtain ⟨r1, r2, r3, r4, r5, r6, r7, r8, r9, r10, r11, r12, r13⟩ := hR
  have bH : (M.1 176 15).toNatClampNeg ≤ 24 := w1.2.2.2.1
  have bF : (M.1 176 27).toNatClampNeg ≤ 24 := w1.2.2.2.2.2.1
  have bX : (M.1 176 44).toNatClampNeg ≤ 500 := w2.2.1
  have bS : (M.1 176 54).toNatClampNeg ≤ 10 := w2.2.2.2.1
  have bD : (M.1 176 7).toNatClampNeg ≤ 200 := w2.2.2.2.2.2.1
  have hWW : zW M := ⟨w1, w2, w3, w4, w5, w6, w7, w8, w9, w10, w11, w12, w13, w14⟩
  obtain ⟨MM, hMM⟩ : ∃ MM, (yb_pI (yb_pI (yb_pI (yb_pI (yb_pI (yb_pI (yb_pI (yb_pI (yb_pI (yb_pI (yb_pI M 189 n (zi x)) 190 n y) 191 n z) 192 n u) 193 n v) 194 n (zi c)) 195 n 0) 196 n (-1)) 198 n (zi (nD M))) 199 n (-1)) 176 27 (zi (n + 1))) = MM := ⟨_, rfl⟩
  refine ⟨⟨?_, ?_, ?_, ?_, ?_, ?_, ?_, ?_, ?_, ?_, ?_, ?_, ?_, ?_⟩, ?_, ?_, ?_, ?_, ?_, ?_, ?_, ?_, ?_, ?_, ?_, ?_, ?_⟩
  · (have hh := w1; simp (disch := omega) only [zRt, zRc, zRh, zRf, zRa, zRr, zRk, zRl, zRn, zRx, zRp, zRb, zRg, zW1, zW2, zWt, zWh, zWf, zWn, zWu, zWa, zWr, zWx, zWs, zWb, zWp, zWg, nT, nH, nF, nR, nK, nX, nS, nD, nB, nG, zTown, zPup, zHeads, zRooms, zThere, zHall, zLodg, zLodger, zOf, zHit, zFinds, zKin, zDayH, zi_tn, zu_ne, zu_nef, zu_eq, zu_id, zu_rl, zu_rdL, zu_neL, zu_idL, ↓reduceIte, Nat.reduceEqDiff] at hh hn ⊢; grind)
  · simpa (disch := omega) only [zRt, zRc, zRh, zRf, zRa, zRr, zRk, zRl, zRn, zRx, zRp, zRb, zRg, zW1, zW2, zWt, zWh, zWf, zWn, zWu, zWa, zWr, zWx, zWs, zWb, zWp, zWg, nT, nH, nF, nR, nK, nX, nS, nD, nB, nG, zTown, zPup, zHeads, zRooms, zThere, zHall, zLodg, zLodger, zOf, zHit, zFinds, zKin, zDayH, zu_ne, zu_nef, zu_eq, zu_id, zu_rl, zu_rdL, zu_neL, zu_idL, ↓reduceIte, Nat.reduceEqDiff] using w2
  · simpa (disch := omega) only [zRt, zRc, zRh, zRf, zRa, zRr, zRk, zRl, zRn, zRx, zRp, zRb, zRg, zW1, zW2, zWt, zWh, zWf, zWn, zWu, zWa, zWr, zWx, zWs, zWb, zWp, zWg, nT, nH, nF, nR, nK, nX, nS, nD, nB, nG, zTown, zPup, zHeads, zRooms, zThere, zHall, zLodg, zLodger, zOf, zHit, zFinds, zKin, zDayH, zu_ne, zu_nef, zu_eq, zu_id, zu_rl, zu_rdL, zu_neL, zu_idL, ↓reduceIte, Nat.reduceEqDiff] using w3
  · simpa (disch := omega) only [zRt, zRc, zRh, zRf, zRa, zRr, zRk, zRl, zRn, zRx, zRp, zRb, zRg, zW1, zW2, zWt, zWh, zWf, zWn, zWu, zWa, zWr, zWx, zWs, zWb, zWp, zWg, nT, nH, nF, nR, nK, nX, nS, nD, nB, nG, zTown, zPup, zHeads, zRooms, zThere, zHall, zLodg, zLodger, zOf, zHit, zFinds, zKin, zDayH, zu_ne, zu_nef, zu_eq, zu_id, zu_rl, zu_rdL, zu_neL, zu_idL, ↓reduceIte, Nat.reduceEqDiff] using w4
  · intro f hf
    have hh := w5 f
    by_cases e : f = n
    · subst e
      refine ⟨⟨x, hx, ?_⟩, ⟨c, hc, ?_⟩, Or.inl ?_, Or.inr ⟨?_, ?_⟩, Or.inl ?_, ⟨nD M, ?_, ?_⟩⟩
      · simp (disch := omega) only [zu_ne, zu_id, ↓reduceIte]
      · simp (disch := omega) only [zu_ne, zu_id, ↓reduceIte]
      · simp (disch := omega) only [zu_ne, zu_id, ↓reduceIte]
      · simp (disch := omega) only [zu_ne, zu_id, ↓reduceIte]
        decide
      · simp (disch := omega) only [zu_ne, zu_id, ↓reduceIte]
      · simp (disch := omega) only [zu_ne, zu_id, ↓reduceIte]
      · unfold nD
        simp (disch := omega) only [zu_ne, zu_id, ↓reduceIte, Nat.reduceEqDiff]
        exact Nat.le_refl _
      · simp (disch := omega) only [zu_ne, zu_id, ↓reduceIte]
    · simp (disch := omega) only [e, nT, nH, nF, nR, nK, zi_tn, zu_ne, zu_nef, zu_eq, zu_id, zu_rl, ↓reduceIte, Nat.reduceEqDiff] at hh hf hn ⊢
      unfold nD at hh ⊢
      simp (disch := omega) only [zu_ne, zu_id, ↓reduceIte, Nat.reduceEqDiff] at hh ⊢
      exact hh (by omega)
  · obtain ⟨q1, q2, q3⟩ := w6
    refine ⟨fun f hf => ?_, ?_, ?_⟩
    · simp (disch := omega) only [nT, nH, nF, nR, nK, nD, zi_tn, zu_ne, zu_nef, zu_eq, zu_id, zu_rl, ↓reduceIte, Nat.reduceEqDiff] at hf ⊢
      exact q1 f (by rw [← hn]; omega)
    · simp (disch := omega) only [nT, nH, nF, nR, nK, nD, zi_tn, zu_ne, zu_nef, zu_eq, zu_id, zu_rl, ↓reduceIte, Nat.reduceEqDiff]
      exact q2
    · simp (disch := omega) only [nT, nH, nF, nR, nK, nD, zi_tn, zu_ne, zu_nef, zu_eq, zu_id, zu_rl, ↓reduceIte, Nat.reduceEqDiff]
      exact q3
  · intro f g hf hg h1 h2 h3
    have hh := w7 f g
    by_cases e : f = n
    · subst e
      simp (disch := omega) only [nT, nH, nF, nR, nK, nD, zi_tn, zu_ne, zu_nef, zu_eq, zu_id, zu_rl, ↓reduceIte, Nat.reduceEqDiff] at h1
      exact absurd h1 (by decide)
    · by_cases e2 : g = n
      · subst e2
        simp (disch := omega) only [nT, nH, nF, nR, nK, nD, zi_tn, zu_ne, zu_nef, zu_eq, zu_id, zu_rl, ↓reduceIte, Nat.reduceEqDiff] at h2
        exact absurd h2 (by decide)
      · simp (disch := omega) only [e, e2, nT, nH, nF, nR, nK, nD, zi_tn, zu_ne, zu_nef, zu_eq, zu_id, zu_rl, ↓reduceIte, Nat.reduceEqDiff] at hh hf hg h1 h2 h3 hn
        exact hh (by omega) (by omega) h1 h2 h3
  · simpa (disch := omega) only [zRt, zRc, zRh, zRf, zRa, zRr, zRk, zRl, zRn, zRx, zRp, zRb, zRg, zW1, zW2, zWt, zWh, zWf, zWn, zWu, zWa, zWr, zWx, zWs, zWb, zWp, zWg, nT, nH, nF, nR, nK, nX, nS, nD, nB, nG, zTown, zPup, zHeads, zRooms, zThere, zHall, zLodg, zLodger, zOf, zHit, zFinds, zKin, zDayH, zu_ne, zu_nef, zu_eq, zu_id, zu_rl, zu_rdL, zu_neL, zu_idL, ↓reduceIte, Nat.reduceEqDiff] using w8
  · refine ⟨fun r hr => ?_, fun k hk => ?_⟩
    · have hh := w9.1 r
      simp (disch := omega) only [nT, nH, nF, nR, nK, nD, zi_tn, zu_ne, zu_nef, zu_eq, zu_id, zu_rl, ↓reduceIte, Nat.reduceEqDiff] at hh hr hn ⊢
      obtain ⟨q1, q2, q3⟩ := hh hr
      refine ⟨q1, ?_, q3⟩
      rcases q2 with q2 | ⟨f, hf, q2⟩
      · exact Or.inl q2
      · exact Or.inr ⟨f, by omega, q2⟩
    · have hh := w9.2 k
      simp (disch := omega) only [nT, nH, nF, nR, nK, nD, zi_tn, zu_ne, zu_nef, zu_eq, zu_id, zu_rl, ↓reduceIte, Nat.reduceEqDiff] at hh hk hn ⊢
      obtain ⟨⟨f, hf, q2⟩, q3⟩ := hh hk
      exact ⟨⟨f, by omega, q2⟩, q3⟩
  · simpa (disch := omega) only [zRt, zRc, zRh, zRf, zRa, zRr, zRk, zRl, zRn, zRx, zRp, zRb, zRg, zW1, zW2, zWt, zWh, zWf, zWn, zWu, zWa, zWr, zWx, zWs, zWb, zWp, zWg, nT, nH, nF, nR, nK, nX, nS, nD, nB, nG, zTown, zPup, zHeads, zRooms, zThere, zHall, zLodg, zLodger, zOf, zHit, zFinds, zKin, zDayH, zu_ne, zu_nef, zu_eq, zu_id, zu_rl, zu_rdL, zu_neL, zu_idL, ↓reduceIte, Nat.reduceEqDiff] using w10
  · simpa (disch := omega) only [zRt, zRc, zRh, zRf, zRa, zRr, zRk, zRl, zRn, zRx, zRp, zRb, zRg, zW1, zW2, zWt, zWh, zWf, zWn, zWu, zWa, zWr, zWx, zWs, zWb, zWp, zWg, nT, nH, nF, nR, nK, nX, nS, nD, nB, nG, zTown, zPup, zHeads, zRooms, zThere, zHall, zLodg, zLodger, zOf, zHit, zFinds, zKin, zDayH, zu_ne, zu_nef, zu_eq, zu_id, zu_rl, zu_rdL, zu_neL, zu_idL, ↓reduceIte, Nat.reduceEqDiff] using w11
  · intro d hd
    have hdM : d < nD M := by
      simp (disch := omega) only [nT, nH, nF, nR, nK, nD, zi_tn, zu_ne, zu_nef, zu_eq, zu_id, zu_rl, ↓reduceIte, Nat.reduceEqDiff] at hd
      unfold nD
      omega
    have hD8 : nD M ≤ 200 := bD
    obtain ⟨q1, q2, q3⟩ := w12 d hdM
    have hdn : zle (zi (nD M)) (zi d) = false := zle_f.mpr (by rw [zi_lt (by omega) (by omega)]; exact hdM)
    refine ⟨fun k hk => ?_, ?_, fun f hf hcf => ?_⟩
    · rw [hMM]
      rw [zDayH_fam (M := M) (n := n) (D := nD M) hn (by rw [← hMM]; unfold nF; simp (disch := omega) only [zu_eq, zi_tn]) (fun k hk => by rw [← hMM]; simp (disch := omega) only [zu_ne, zu_id, if_neg]) (fun k => by rw [← hMM]; simp (disch := omega) only [zu_ne, zu_id]) (fun f => by rw [← hMM]; simp (disch := omega) only [zu_ne]) hdM hD8, ← q1 k hk, ← hMM]
      rfl
    · simp (disch := omega) only [nT, nH, nF, nR, nK, nD, zi_tn, zu_ne, zu_nef, zu_eq, zu_id, zu_rl, ↓reduceIte, Nat.reduceEqDiff]
      exact q2
    · have hfn : f ≠ n := by
        intro e
        subst e
        simp (disch := omega) only [zu_ne, zu_id, ↓reduceIte] at hcf
        exact absurd (zle_t.mpr hcf) (by rw [hdn]; decide)
      have := q3 f
      simp (disch := omega) only [hfn, nT, nH, nF, nR, nK, nD, zi_tn, zu_ne, zu_nef, zu_eq, zu_id, zu_rl, ↓reduceIte, Nat.reduceEqDiff] at hf hcf hn this ⊢
      exact this (by omega) hcf
  · simpa (disch := omega) only [zRt, zRc, zRh, zRf, zRa, zRr, zRk, zRl, zRn, zRx, zRp, zRb, zRg, zW1, zW2, zWt, zWh, zWf, zWn, zWu, zWa, zWr, zWx, zWs, zWb, zWp, zWg, nT, nH, nF, nR, nK, nX, nS, nD, nB, nG, zTown, zPup, zHeads, zRooms, zThere, zHall, zLodg, zLodger, zOf, zHit, zFinds, zKin, zDayH, zu_ne, zu_nef, zu_eq, zu_id, zu_rl, zu_rdL, zu_neL, zu_idL, ↓reduceIte, Nat.reduceEqDiff] using w13
  · simpa (disch := omega) only [zRt, zRc, zRh, zRf, zRa, zRr, zRk, zRl, zRn, zRx, zRp, zRb, zRg, zW1, zW2, zWt, zWh, zWf, zWn, zWu, zWa, zWr, zWx, zWs, zWb, zWp, zWg, nT, nH, nF, nR, nK, nX, nS, nD, nB, nG, zTown, zPup, zHeads, zRooms, zThere, zHall, zLodg, zLodger, zOf, zHit, zFinds, zKin, zDayH, zu_ne, zu_nef, zu_eq, zu_id, zu_rl, zu_rdL, zu_neL, zu_idL, ↓reduceIte, Nat.reduceEqDiff] using w14
  · simpa (disch := omega) only [zRt, zRc, zRh, zRf, zRa, zRr, zRk, zRl, zRn, zRx, zRp, zRb, zRg, zW1, zW2, zWt, zWh, zWf, zWn, zWu, zWa, zWr, zWx, zWs, zWb, zWp, zWg, nT, nH, nF, nR, nK, nX, nS, nD, nB, nG, zTown, zPup, zHeads, zRooms, zThere, zHall, zLodg, zLodger, zOf, zHit, zFinds, zKin, zDayH, zu_ne, zu_nef, zu_eq, zu_id, zu_rl, zu_rdL, zu_neL, zu_idL, ↓reduceIte, Nat.reduceEqDiff] using r1
  · refine zRc_fam (o := o) (M := M) (n := n) (x := x) hWW r2 hn ?_ ?_ (fun k => ?_) (fun k => ?_) (fun k hk => ?_) (fun k hk => ?_) (fun k => ?_) (fun k => ?_) (fun k => ?_) (fun id k q1 => ?_)
    · unfold nF
      simp (disch := omega) only [zu_eq, zi_tn]
    · unfold nH
      simp (disch := omega) only [zu_ne, zu_id, ↓reduceIte, Nat.reduceEqDiff]
    · simp (disch := omega) only [zu_ne, zu_id]
    · simp (disch := omega) only [zu_ne, zu_id]
    · simp (disch := omega) only [zu_ne, zu_id, if_neg]
    · simp (disch := omega) only [zu_ne, zu_id, if_neg]
    · simp (disch := omega) only [zu_ne]
    · simp (disch := omega) only [zu_ne]
    · simp (disch := omega) only [zu_ne, zu_id]
    · rcases q1 with q1 | q1 | q1 | q1 | q1 <;> subst q1 <;> simp (disch := omega) only [zu_ne, zu_id]
  · simpa (disch := omega) only [zRt, zRc, zRh, zRf, zRa, zRr, zRk, zRl, zRn, zRx, zRp, zRb, zRg, zW1, zW2, zWt, zWh, zWf, zWn, zWu, zWa, zWr, zWx, zWs, zWb, zWp, zWg, nT, nH, nF, nR, nK, nX, nS, nD, nB, nG, zTown, zPup, zHeads, zRooms, zThere, zHall, zLodg, zLodger, zOf, zHit, zFinds, zKin, zDayH, zu_ne, zu_nef, zu_eq, zu_id, zu_rl, zu_rdL, zu_neL, zu_idL, ↓reduceIte, Nat.reduceEqDiff] using r3
  · refine ⟨by simp (disch := omega) only [zu_ne, zu_eq, zu_id, ↓reduceIte, Nat.reduceEqDiff], fun k hk => ?_⟩
    have hh := r4.2 k
    have hnn := w6.1 n (by omega)
    by_cases e : k = n <;> simp (disch := omega) only [e, nT, nH, nF, nR, nK, zi_tn, zu_ne, zu_nef, zu_eq, zu_id, zu_rl, ↓reduceIte, Nat.reduceEqDiff] at hh hk hn ⊢
    · exact ⟨trivial, trivial, trivial, trivial, trivial, trivial, trivial, trivial, hnn.symm, trivial, trivial⟩
    · exact hh (by omega)
  · simpa (disch := omega) only [zRt, zRc, zRh, zRf, zRa, zRr, zRk, zRl, zRn, zRx, zRp, zRb, zRg, zW1, zW2, zWt, zWh, zWf, zWn, zWu, zWa, zWr, zWx, zWs, zWb, zWp, zWg, nT, nH, nF, nR, nK, nX, nS, nD, nB, nG, zTown, zPup, zHeads, zRooms, zThere, zHall, zLodg, zLodger, zOf, zHit, zFinds, zKin, zDayH, zu_ne, zu_nef, zu_eq, zu_id, zu_rl, zu_rdL, zu_neL, zu_idL, ↓reduceIte, Nat.reduceEqDiff] using r5
  · simpa (disch := omega) only [zRt, zRc, zRh, zRf, zRa, zRr, zRk, zRl, zRn, zRx, zRp, zRb, zRg, zW1, zW2, zWt, zWh, zWf, zWn, zWu, zWa, zWr, zWx, zWs, zWb, zWp, zWg, nT, nH, nF, nR, nK, nX, nS, nD, nB, nG, zTown, zPup, zHeads, zRooms, zThere, zHall, zLodg, zLodger, zOf, zHit, zFinds, zKin, zDayH, zu_ne, zu_nef, zu_eq, zu_id, zu_rl, zu_rdL, zu_neL, zu_idL, ↓reduceIte, Nat.reduceEqDiff] using r6
  · obtain ⟨f1, f2, f3⟩ := zFinds_fam (M := M) (M' := MM) hWW hn (fun id k q1 q2 => by rw [← hMM]; simp (disch := omega) only [zu_ne]) (by rw [← hMM]; unfold nR; simp (disch := omega) only [zu_ne, zu_id, ↓reduceIte, Nat.reduceEqDiff]) (by rw [← hMM]; unfold nK; simp (disch := omega) only [zu_ne, zu_id, ↓reduceIte, Nat.reduceEqDiff])
    have e27 : nF MM = n + 1 := by rw [← hMM]; unfold nF; simp (disch := omega) only [zu_eq, zi_tn]
    rw [hMM]
    intro f hf
    have hh := r7 f hf
    rw [e27]
    simp (disch := omega) only [zu_ne]
    rw [hh.1, hh.2, ← hn]
    refine ⟨?_, ?_⟩
    · rw [zbits_snoc (by rw [f1, f2]; simp)]
      exact zbits_congr fun k hk => by rw [f1]
    · rw [zbits_snoc (by unfold zKin; rw [f1, f1, f2, f3]; simp)]
      exact zbits_congr fun k hk => by unfold zKin; rw [f1, f1]
  · simpa (disch := omega) only [zRt, zRc, zRh, zRf, zRa, zRr, zRk, zRl, zRn, zRx, zRp, zRb, zRg, zW1, zW2, zWt, zWh, zWf, zWn, zWu, zWa, zWr, zWx, zWs, zWb, zWp, zWg, nT, nH, nF, nR, nK, nX, nS, nD, nB, nG, zTown, zPup, zHeads, zRooms, zThere, zHall, zLodg, zLodger, zOf, zHit, zFinds, zKin, zDayH, zu_ne, zu_nef, zu_eq, zu_id, zu_rl, zu_rdL, zu_neL, zu_idL, ↓reduceIte, Nat.reduceEqDiff] using r8
  · obtain ⟨q1, q2, q3⟩ := r9
    refine ⟨by simp (disch := omega) only [zu_ne, zu_id, ↓reduceIte, Nat.reduceEqDiff]; exact q1, by simp (disch := omega) only [zu_ne, zu_id, ↓reduceIte, Nat.reduceEqDiff]; exact q2, ?_⟩
    rw [hMM, zThere_fam (M := M) (n := n) (x := zi x) hn (by rw [← hMM]; unfold nF; simp (disch := omega) only [zu_eq, zi_tn]) (fun k => by rw [← hMM]; simp (disch := omega) only [zu_ne, zu_id]) (fun k => by rw [← hMM]; simp (disch := omega) only [zu_ne, zu_id]), ← q3]
    simp (disch := omega) only [zu_ne, zu_eq]
  · simpa (disch := omega) only [zRt, zRc, zRh, zRf, zRa, zRr, zRk, zRl, zRn, zRx, zRp, zRb, zRg, zW1, zW2, zWt, zWh, zWf, zWn, zWu, zWa, zWr, zWx, zWs, zWb, zWp, zWg, nT, nH, nF, nR, nK, nX, nS, nD, nB, nG, zTown, zPup, zHeads, zRooms, zThere, zHall, zLodg, zLodger, zOf, zHit, zFinds, zKin, zDayH, zu_ne, zu_nef, zu_eq, zu_id, zu_rl, zu_rdL, zu_neL, zu_idL, ↓reduceIte, Nat.reduceEqDiff] using r10
  · obtain ⟨q, q1, q2, q3, q4⟩ := r11
    refine ⟨q, ?_, ?_, ?_, fun f hf g hg => ?_⟩
    · rw [show nF _ = n + 1 from by unfold nF; simp (disch := omega) only [zu_eq, zi_tn]]
      omega
    · simp (disch := omega) only [zu_ne]
      exact q2
    · simp (disch := omega) only [zu_ne, zu_id, ↓reduceIte, Nat.reduceEqDiff]
      exact q3
    · simp (disch := omega) only [zu_ne, zu_id, ↓reduceIte, Nat.reduceEqDiff]
      exact q4 f hf g hg
  · obtain ⟨q1, q2, q3⟩ := r12
    have hD8 : nD M ≤ 200 := bD
    refine ⟨fun d hd f hf hcf => ?_, ?_, ?_⟩
    · have hdM : d < nD M := by
        simp (disch := omega) only [nT, nH, nF, nR, nK, nD, zi_tn, zu_ne, zu_nef, zu_eq, zu_id, zu_rl, ↓reduceIte, Nat.reduceEqDiff] at hd
        unfold nD
        omega
      have hfn : f ≠ n := by
        intro e
        subst e
        simp (disch := omega) only [zu_ne, zu_id, ↓reduceIte] at hcf
        rw [zi_le (by omega) (by omega)] at hcf
        omega
      have := q1 d hdM f
      simp (disch := omega) only [hfn, nT, nH, nF, nR, nK, nD, zi_tn, zu_ne, zu_nef, zu_eq, zu_id, zu_rl, ↓reduceIte, Nat.reduceEqDiff] at hf hcf hn this ⊢
      exact this (by omega) hcf
    · simp (disch := omega) only [nT, nH, nF, nR, nK, nD, zi_tn, zu_ne, zu_nef, zu_eq, zu_id, zu_rl, ↓reduceIte, Nat.reduceEqDiff]
      exact q2
    · simp (disch := omega) only [nT, nH, nF, nR, nK, nD, zi_tn, zu_ne, zu_nef, zu_eq, zu_id, zu_rl, ↓reduceIte, Nat.reduceEqDiff]
      exact q3
  · simpa (disch := omega) only [zRt, zRc, zRh, zRf, zRa, zRr, zRk, zRl, zRn, zRx, zRp, zRb, zRg, zW1, zW2, zWt, zWh, zWf, zWn, zWu, zWa, zWr, zWx, zWs, zWb, zWp, zWg, nT, nH, nF, nR, nK, nX, nS, nD, nB, nG, zTown, zPup, zHeads, zRooms, zThere, zHall, zLodg, zLodger, zOf, zHit, zFinds, zKin, zDayH, zu_ne, zu_nef, zu_eq, zu_id, zu_rl, zu_rdL, zu_neL, zu_idL, ↓reduceIte, Nat.reduceEqDiff] using r13
theorem zo_canHeads {w : Nat} {s : yb_S} (hw : w < 2147483648) : f_X11_canBeHeads (zi w) s = some (if 100 ≤ w ∧ w ≤ 999 ∧ w / 10 % 10 ≤ w / 100 ∧ w % 10 ≤ 1 then 1 else 0) := by
  unfold f_X11_canBeHeads
  simp (disch := omega) only [↓zmd, zl, zi_div, zi_rem, zi_lt, zi_le, zi_inj, zi_add, zi_sub, zi_addm, zi_eqm, zi_meq, zi_mlt, zi_ltm, zi_lem, zi_mle, zi_tn, zi_rd, zi_wr, zi_rl, zi_wl, zi_ri, zu_ne, zu_nef, zu_eq, zu_id, zu_rl, zu_rdL, zu_neL, zu_idL, Option.bind_some, ↓reduceIte, Nat.reduceEqDiff, if_pos, if_neg]
  (repeat' split) <;> first | rfl | (exfalso; omega)
theorem zo_canKind {w : Nat} {s : yb_S} (hw : w < 2147483648) : f_X11_canBeKind (zi w) s = some (if w / 100 ≤ 3 ∧ w / 10 % 10 ≤ 5 ∧ w % 10 < 6 then 1 else 0) := by
  unfold f_X11_canBeKind
  simp (disch := omega) only [↓zmd, zl, zi_div, zi_rem, zi_lt, zi_le, zi_inj, zi_add, zi_sub, zi_addm, zi_eqm, zi_meq, zi_mlt, zi_ltm, zi_lem, zi_mle, zi_tn, zi_rd, zi_wr, zi_rl, zi_wl, zi_ri, zu_ne, zu_nef, zu_eq, zu_id, zu_rl, zu_rdL, zu_neL, zu_idL, Option.bind_some, ↓reduceIte, Nat.reduceEqDiff, if_pos, if_neg]
  (repeat' split) <;> first | rfl | (exfalso; omega)
theorem zo_addFam {M m s : yb_S} (hW : zW M) (hA : zA M m s) {w v : Nat} {d : Int32} (hw : w < 2147483648) (hv : v < 2147483648) (h24 : nF M < 24) : f_X2_add (zi w) (zi v) d s = some (zi (nF M), yb_pI (yb_pI (yb_pI (yb_pI (yb_pI (yb_pI (yb_pI (yb_pI (yb_pI (yb_pI (yb_pI (yb_pI (yb_pI s 22 (nF M) (zi (w / 100))) 23 (nF M) (zi (w / 10 % 10))) 24 (nF M) (zi (w % 10))) 25 (nF M) (zi (v / 100))) 26 (nF M) (zi (v / 10 % 10))) 27 (nF M) (zi (v % 10))) 28 (nF M) 0) 29 (nF M) (-1)) 30 (nF M) (-1)) 31 (nF M) 0) 32 (nF M) d) 33 (nF M) (-1)) 21 0 (zi (nF M + 1))) := by
  unfold f_X2_add
  simp (disch := omega) only [cq_F hA, zw_F hW, ↓zmd, zl, zi_div, zi_rem, zi_lt, zi_le, zi_inj, zi_add, zi_sub, zi_addm, zi_eqm, zi_meq, zi_mlt, zi_ltm, zi_lem, zi_mle, zi_tn, zi_rd, zi_wr, zi_rl, zi_wl, zi_ri, zu_ne, zu_nef, zu_eq, zu_id, zu_rl, zu_rdL, zu_neL, zu_idL, Option.bind_some, ↓reduceIte, Nat.reduceEqDiff, if_pos, if_neg]
  rfl
theorem ze_4 : ∀ (a1 a2 : Int32) (s : yb_S), zInv s → ∃ (r : Int32) (s1 s2 : yb_S), f_X11_family a1 a2 s = some (r, s1) ∧ f_X12_family a1 a2 s1 = some (r, s2) ∧ zInv s2 := by
  intro a1 a2 s h
  have hW := h.1
  have h9 := zw_F8 hW
  have h10 := zw_D8 hW
  by_cases hc : ∃ w v, w < 2147483648 ∧ v < 2147483648 ∧ a1 = zi w ∧ a2 = zi v ∧ (100 ≤ w ∧ w ≤ 999 ∧ w / 10 % 10 ≤ w / 100 ∧ w % 10 ≤ 1) ∧ (v / 100 ≤ 3 ∧ v / 10 % 10 ≤ 5 ∧ v % 10 < 6) ∧ nF (zP s) < 24
  · obtain ⟨w, v, hw, hv, rfl, rfl, hw2, hv2, h24⟩ := hc
    have hk := fun (o : yb_S) hR => zk_family (o := o) (M := zP s) (n := nF (zP s)) (x := w / 100) (c := v % 10) (y := zi (w / 10 % 10)) (z := zi (w % 10)) (u := zi (v / 100)) (v := zi (v / 10 % 10)) rfl h24 (by omega) (by omega) hW hR
    refine z_call h (zi (nF (zP s))) _ (fun m u hA => ?_) (fun o u hQ => ?_) (hk _ h.2.1).1 ?_
    · unfold f_X11_family
      rw [zo_canHeads hw, if_pos hw2, Option.bind_some, if_neg (by decide), zo_canKind hv, if_pos hv2, Option.bind_some, if_neg (by decide), cq_D hA, zw_D hW, zo_addFam hW hA hw hv h24, Option.bind_some]
      simp (disch := omega) only [↓zmd, zl, zi_div, zi_rem, zi_lt, zi_le, zi_inj, zi_add, zi_sub, zi_addm, zi_eqm, zi_meq, zi_mlt, zi_ltm, zi_lem, zi_mle, zi_tn, zi_rd, zi_wr, zi_rl, zi_wl, zi_ri, zu_ne, zu_nef, zu_eq, zu_id, zu_rl, zu_rdL, zu_neL, zu_idL, Option.bind_some, ↓reduceIte, Nat.reduceEqDiff, if_pos, if_neg]
      refine zs_ret ⟨rfl, ?_, ?_⟩
      · have := (hk _ hA.1).2
        simp (disch := omega) only [zP_e, zP_s, zP_k, zP_k0, zP_Ls, zP_Le, zO_e, zO_s, zO_92, zO_92s, zO_100, zO_100s, zO_Ls, zO_Le]
        exact this
      · simp (disch := omega) only [zHm_pI]
        exact hA.2
    · unfold f_X12_family
      rw [if_neg (by rw [zi_neg (by omega)]; exact id), if_neg (by rw [zi_neg (by omega)]; exact id)]
      rw [show zi w / 100 = zi (w / 100) from zi_div (by omega) (by decide), z_inZ (l := 1) (h := 9) (a := 1) (b := 9) (by decide) (by decide) (by omega) (by decide) (by decide), if_pos (by omega), if_neg (by decide)]
      simp (disch := omega) only [zqk hQ, zw_F hW, zw_D hW, ↓zmd, zl, zi_div, zi_rem, zi_lt, zi_le, zi_inj, zi_add, zi_sub, zi_addm, zi_eqm, zi_meq, zi_mlt, zi_ltm, zi_lem, zi_mle, zi_tn, zi_rd, zi_wr, zi_rl, zi_wl, zi_ri, zu_ne, zu_nef, zu_eq, zu_id, zu_rl, zu_rdL, zu_neL, zu_idL, Option.bind_some, ↓reduceIte, Nat.reduceEqDiff, if_pos, if_neg]
      refine zs_ret ⟨rfl, ?_, ?_, Or.inl rfl⟩
      · simp (disch := omega) only [zP_e, zP_s, zP_k, zP_k0, zP_Ls, zP_Le, zO_e, zO_s, zO_92, zO_92s, zO_100, zO_100s, zO_Ls, zO_Le]
        rw [hQ.1]
      · simp (disch := omega) only [zHo_pI]
        exact hQ.2.1
    · simp (disch := omega) only [zu_ne, zu_id, ↓reduceIte, Nat.reduceEqDiff]
      exact z_b58 h
  · refine z_ask h (-1) (fun m u hA => ?_) (fun o u hQ => ?_)
    · unfold f_X11_family
      rcases zi_cases a1 with h2 | ⟨w, hw, rfl⟩
      · have : f_X11_canBeHeads a1 u = some 0 := by
          unfold f_X11_canBeHeads
          rw [if_pos (Int32.lt_trans h2 (by decide))]
        rw [this]
        exact zs_ret ⟨rfl, hA⟩
      · rw [zo_canHeads hw]
        by_cases hw2 : 100 ≤ w ∧ w ≤ 999 ∧ w / 10 % 10 ≤ w / 100 ∧ w % 10 ≤ 1
        · rw [if_pos hw2, Option.bind_some, if_neg (by decide)]
          rcases zi_cases a2 with h3 | ⟨v, hv, rfl⟩
          · have : f_X11_canBeKind a2 u = some 0 := by
              unfold f_X11_canBeKind
              rw [if_pos (show a2 < 0 from h3)]
            rw [this]
            exact zs_ret ⟨rfl, hA⟩
          · rw [zo_canKind hv]
            by_cases hv2 : v / 100 ≤ 3 ∧ v / 10 % 10 ≤ 5 ∧ v % 10 < 6
            · rw [if_pos hv2, Option.bind_some, if_neg (by decide)]
              have h24 : ¬ nF (zP s) < 24 := fun q => hc ⟨w, v, hw, hv, rfl, rfl, hw2, hv2, q⟩
              have : f_X2_add (zi w) (zi v) (u.1 1 5) u = some (-1, u) := by
                unfold f_X2_add
                rw [cq_F hA, zw_F hW, if_neg (by rw [show (24 : Int32) = zi 24 from rfl, zi_lt (by omega) (by omega)]; exact h24)]
              rw [this]
              exact zs_ret ⟨rfl, hA⟩
            · rw [if_neg hv2]
              exact zs_ret ⟨rfl, hA⟩
        · rw [if_neg hw2]
          exact zs_ret ⟨rfl, hA⟩
    · have hret : zs_P (some ((-1 : Int32), u)) (fun q => q.1 = -1 ∧ zQ (zP s) o q.2) := zs_ret ⟨rfl, hQ⟩
      unfold f_X12_family
      rcases zi_cases a1 with h2 | ⟨w, hw, rfl⟩
      · rw [if_pos (show a1 < 0 from h2)]
        exact hret
      · rw [if_neg (by rw [zi_neg (by omega)]; exact id)]
        rcases zi_cases a2 with h3 | ⟨v, hv, rfl⟩
        · rw [if_pos (show a2 < 0 from h3)]
          exact hret
        · rw [if_neg (by rw [zi_neg (by omega)]; exact id), show zi w / 100 = zi (w / 100) from zi_div (by omega) (by decide), z_inZ (l := 1) (h := 9) (a := 1) (b := 9) (by decide) (by decide) (by omega) (by decide) (by decide)]
          by_cases q1 : 1 ≤ w / 100 ∧ w / 100 ≤ 9
          · rw [if_pos q1, if_neg (by decide), zqk hQ (by omega), zw_F hW]
            simp (disch := omega) only [show (10 : Int32) = zi 10 from rfl, show (1 : Int32) = zi 1 from rfl, show (3 : Int32) = zi 3 from rfl, show (5 : Int32) = zi 5 from rfl, show (100 : Int32) = zi 100 from rfl, show (24 : Int32) = zi 24 from rfl, zi_div, zi_rem, zi_lt, zi_inj]
            by_cases q2 : w / 100 < w / 10 % 10
            · rw [if_pos q2]
              exact hret
            rw [if_neg q2]
            by_cases q3 : 1 < w % 10
            · rw [if_pos q3]
              exact hret
            rw [if_neg q3]
            by_cases q4 : 3 < v / 100
            · rw [if_pos q4]
              exact hret
            rw [if_neg q4]
            by_cases q5 : 5 < v / 10 % 10
            · rw [if_pos q5]
              exact hret
            rw [if_neg q5]
            by_cases q6 : 5 < v % 10
            · rw [if_pos q6]
              exact hret
            rw [if_neg q6]
            have h24 : ¬ nF (zP s) < 24 := fun q => hc ⟨w, v, hw, hv, rfl, rfl, by omega, by omega, q⟩
            rw [if_pos (by omega)]
            exact hret
          · rw [if_neg q1, if_pos rfl]
            exact hret
