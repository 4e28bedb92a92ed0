/-! the class's settle and unsettle; leave and move -/
def zFree (M : yb_S) (h : Nat) : Prop := ∀ g, g < nF M → M.1 195 g = 1 → M.1 196 g ≠ zi h
theorem zHs_W {M : yb_S} (hW : zW M) {f h : Nat} (hf : f < nF M) (hh : h < nH M) (h0 : M.1 195 f = 0) (hfr : zFree M h) : zW (zHs M f h) := by
  refine zW_hous hW zHs_h (Or.inr (Or.inl zHs_1.1)) (Or.inl ⟨zHs_1.1, h, hh, zHs_1.2, fun g hg _ h1 => hfr g hg h1⟩)
theorem zUn_W {M : yb_S} (hW : zW M) {f : Nat} (hf : f < nF M) : zW (zUn M f) :=
  zW_hous hW zUn_h (Or.inl zUn_1.1) (Or.inr ⟨by rw [zUn_1.1]; decide, zUn_1.2⟩)
theorem zN_hous {M M' : yb_S} {f : Nat} (hH : zHous M M' f) : nF M' = nF M ∧ nH M' = nH M ∧ nT M' = nT M := by
  unfold nF nH nT
  rw [zHous_c hH (id := 176) (by decide) (by decide)]
  exact ⟨rfl, rfl, rfl⟩
theorem zo_settle {M m s : yb_S} (hW : zW M) (hA : zA M m s) {f h : Nat} (hf : f < nF M) (hh : h < nH M) (h0 : M.1 195 f = 0) (hfr : zFree M h) : zs_P (f_X8_settle (zi f) (zi h) s) (fun u => zA (zHs M f h) m u) := by
  have h8 := zw_F8 hW
  have h9 := zw_H8 hW
  have h10 := zw_T8 hW
  obtain ⟨ht, et⟩ := zw_ht hW hh
  have hm1 : M.1 196 f = -1 := by
    rcases (zw_f hW hf).2.2.2.1 with ⟨q, -⟩ | ⟨-, q⟩
    · rw [h0] at q
      exact absurd q (by decide)
    · exact q
  unfold f_X8_settle
  rw [zo_isIn hW hA hf, h0, Option.bind_some, if_neg (by decide), zo_hHt hW hA hh, Option.bind_some, if_neg (by decide)]
  rw [zi_rd (by omega) (by omega), Option.bind_some, cq_14 hA hh, et]
  generalize zHt M h = t at *
  simp (disch := omega) only [zi_rd, zi_wr, Option.bind_some, zu_ne, cq_9 hA, cq_10 hA, cq_11 hA, cq_22 hA, cq_23 hA]
  obtain ⟨n1, n2, n3⟩ := zN_hous (zHs_h (M := M) (f := f) (h := h))
  have eT0 : zTown M f = -1 := zTown_0 (by rw [h0]; decide)
  have eT1 : zTown (zHs M f h) f = zi t := by
    rw [zTown_1 zHs_1.1 zHs_1.2 (by omega), zHous_c zHs_h (by decide) (by decide), et]
  refine zs_ret ⟨?_, ?_⟩
  · simp (disch := omega) only [zP_e, zP_s, zP_k, zP_k0, zP_Ls, zP_Le, zO_e, zO_s, zO_92, zO_92s, zO_100, zO_100s, zO_Ls, zO_Le]
    refine zR_hous hA.1 (zHs_h (f := f) (h := h)) (fun id q1 q2 q3 q4 q5 q6 q7 => ?_) rfl (fun k => ?_) (fun k => ?_) ?_ ?_
    · simp (disch := omega) only [zu_nef]
    · simp (disch := omega) only [zu_ne, zu_id, zHs_1.1]
    · simp (disch := omega) only [zu_ne, zu_id, zHs_1.2]
    · obtain ⟨r1, r2, r3⟩ := hA.1.2.1
      refine ⟨fun T hT => ?_, fun g hg => ?_, fun g hg => ?_⟩
      · obtain ⟨q1, q2, q3, q4⟩ := r1 T hT
        have hz := zm_ne (T := T) (by omega)
        refine ⟨?_, ?_, ?_, ?_⟩
        · simp (disch := omega) only [zu_ne]
          rw [zRooms_u zHs_h]
          exact q1
        · simp (disch := omega) only [zu_ne, zu_id]
          rw [zHeads_u hf zHs_h, eT0, eT1, hz]
          by_cases e : T = t
          · rw [if_pos e, e]
            simp
          · rw [if_neg e, zm_eqF (by omega) (by omega) e, q2]
            simp
        · simp (disch := omega) only [zu_ne, zu_id]
          rw [zPup_u hf zHs_h, eT0, eT1, hz]
          have hm : (zi f != -1) = true := bne_iff_ne.mpr (by rw [ne_eq, show (zi f = -1) = False from zi_m1 (by omega)]; exact id)
          rw [hm]
          by_cases e : T = t
          · rw [if_pos e, e]
            simp
          · rw [if_neg e, zm_eqF (by omega) (by omega) e, q3]
            simp
        · simp (disch := omega) only [zu_ne, zu_id]
          by_cases e : T = t
          · rw [if_pos e, e]
            unfold zLodg
            rw [n1]
            exact (zbits_set (by omega) hf fun k hk => by
              by_cases e2 : k = f
              · subst e2
                rw [eT1]
                simp
              · rw [zTown_o zHs_h e2]
                simp [e2]).symm
          · rw [if_neg e, q4]
            unfold zLodg
            rw [n1]
            exact zbits_congr fun k hk => by
              by_cases e2 : k = f
              · subst e2
                rw [eT1, eT0, hz, zm_eqF (by omega) (by omega) e]
              · rw [zTown_o zHs_h e2]
      · rw [n2] at hg
        simp (disch := omega) only [zu_ne, zu_id]
        by_cases e : g = h
        · rw [if_pos e, e]
          refine (zLodger_one (by rw [n1]; exact hf) zHs_1.1 zHs_1.2 fun x hx hxf h1 => ?_).symm
          rw [zHs_h.1 195 x (Or.inr hxf)] at h1
          rw [zHs_h.1 196 x (Or.inr hxf)]
          exact hfr x (by rw [n1] at hx; exact hx) h1
        · rw [if_neg e, r2 g hg]
          unfold zLodger
          rw [n1]
          congr 1
          refine zfind_congr fun k hk => ?_
          by_cases e2 : k = f
          · subst e2
            rw [h0, zHs_1.1, zHs_1.2, show (zi h == zi g) = false from zm_eqF (by omega) (by omega) e]
            rfl
          · rw [zHs_h.1 195 k (Or.inr e2), zHs_h.1 196 k (Or.inr e2)]
      · rw [n1] at hg
        simp (disch := omega) only [zu_ne, zu_id]
        by_cases e : g = f
        · rw [if_pos e, e, eT1]
        · rw [if_neg e, zTown_o zHs_h e]
          exact r3 g hg
    · exact zThere_u hf zHs_h (by rw [h0]; decide) (by rw [zHs_1.1]; decide)
  · simp (disch := omega) only [zHm_pI]
    exact hA.2
theorem zo_unsettle1 {M m s : yb_S} (hW : zW M) (hA : zA M m s) {f : Nat} (hf : f < nF M) (h1 : M.1 195 f = 1) : zs_P (f_X8_unsettle (zi f) s) (fun u => zA (zUn M f) m u) := by
  have h8 := zw_F8 hW
  have h9 := zw_H8 hW
  have h10 := zw_T8 hW
  obtain ⟨t, ht, eT0, -, h, hh, e2, e3⟩ : ∃ t, t < nT M ∧ zTown M f = zi t ∧ M.1 195 f = 1 ∧ ∃ h, h < nH M ∧ M.1 196 f = zi h ∧ M.1 183 h = zi t := (zTown_in hW hf).resolve_left (fun q => q.2.1 h1)
  unfold f_X8_unsettle
  rw [zo_isIn hW hA hf, h1, Option.bind_some, if_neg (by decide), zi_rd (by omega) (by omega), Option.bind_some, cq_30 hA hf, eT0, zi_rd (by omega) (by omega), Option.bind_some, cq_29 hA hf, e2]
  simp (disch := omega) only [zi_rd, zi_wr, Option.bind_some, zu_ne, cq_9 hA, cq_10 hA, cq_11 hA, cq_22 hA, cq_23 hA]
  obtain ⟨n1, n2, n3⟩ := zN_hous (zUn_h (M := M) (f := f))
  have eT1 : zTown (zUn M f) f = -1 := zTown_0 (by rw [zUn_1.1]; decide)
  refine zs_ret ⟨?_, ?_⟩
  · simp (disch := omega) only [zP_e, zP_s, zP_k, zP_k0, zP_Ls, zP_Le, zO_e, zO_s, zO_92, zO_92s, zO_100, zO_100s, zO_Ls, zO_Le]
    refine zR_hous hA.1 (zUn_h (f := f)) (fun id q1 q2 q3 q4 q5 q6 q7 => ?_) rfl (fun k => ?_) (fun k => ?_) ?_ ?_
    · simp (disch := omega) only [zu_nef]
    · simp (disch := omega) only [zu_ne, zu_id, zUn_1.1]
    · simp (disch := omega) only [zu_ne, zu_id, zUn_1.2]
    · obtain ⟨r1, r2, r3⟩ := hA.1.2.1
      refine ⟨fun T hT => ?_, fun g hg => ?_, fun g hg => ?_⟩
      · obtain ⟨q1, q2, q3, q4⟩ := r1 T hT
        have hz := zm_ne (T := T) (by omega)
        refine ⟨?_, ?_, ?_, ?_⟩
        · simp (disch := omega) only [zu_ne]
          rw [zRooms_u zUn_h]
          exact q1
        · simp (disch := omega) only [zu_ne, zu_id]
          rw [zHeads_u hf zUn_h, eT0, eT1, hz]
          by_cases e : T = t
          · rw [if_pos e, e]
            simp
          · rw [if_neg e, zm_eqF (by omega) (by omega) e, q2]
            simp
        · simp (disch := omega) only [zu_ne, zu_id]
          rw [zPup_u hf zUn_h, eT0, eT1, hz]
          have hm : (zi f != -1) = true := bne_iff_ne.mpr (by rw [ne_eq, show (zi f = -1) = False from zi_m1 (by omega)]; exact id)
          rw [hm]
          by_cases e : T = t
          · rw [if_pos e, e]
            simp
          · rw [if_neg e, zm_eqF (by omega) (by omega) e, q3]
            simp
        · simp (disch := omega) only [zu_ne, zu_id]
          by_cases e : T = t
          · rw [if_pos e, e]
            unfold zLodg
            rw [n1]
            exact (zbits_clr (by omega) hf fun k hk => by
              by_cases e2 : k = f
              · subst e2
                rw [eT1, zm_ne (by omega)]
                simp
              · rw [zTown_o zUn_h e2]
                simp [e2]).symm
          · rw [if_neg e, q4]
            unfold zLodg
            rw [n1]
            exact zbits_congr fun k hk => by
              by_cases e2 : k = f
              · subst e2
                rw [eT1, eT0, hz, zm_eqF (by omega) (by omega) e]
              · rw [zTown_o zUn_h e2]
      · rw [n2] at hg
        simp (disch := omega) only [zu_ne, zu_id]
        by_cases e : g = h
        · rw [if_pos e, e]
          refine (zLodger_none fun x hx q1 q2 => ?_).symm
          by_cases hxf : x = f
          · subst hxf
            rw [zUn_1.1] at q1
            exact absurd q1 (by decide)
          · rw [zUn_h.1 195 x (Or.inr hxf)] at q1
            rw [zUn_h.1 196 x (Or.inr hxf)] at q2
            exact hxf (hW.2.2.2.2.2.2.1 x f (by rw [n1] at hx; exact hx) hf q1 h1 (q2.trans e2.symm))
        · rw [if_neg e, r2 g hg]
          unfold zLodger
          rw [n1]
          congr 1
          refine zfind_congr fun k hk => ?_
          by_cases e4 : k = f
          · subst e4
            rw [h1, e2, zUn_1.1, show (zi h == zi g) = false from zm_eqF (by omega) (by omega) e]
            rfl
          · rw [zUn_h.1 195 k (Or.inr e4), zUn_h.1 196 k (Or.inr e4)]
      · rw [n1] at hg
        simp (disch := omega) only [zu_ne, zu_id]
        by_cases e : g = f
        · rw [if_pos e, e, eT1]
        · rw [if_neg e, zTown_o zUn_h e]
          exact r3 g hg
    · exact zThere_u hf zUn_h (by rw [h1]; decide) (by rw [zUn_1.1]; decide)
  · simp (disch := omega) only [zHm_pI]
    exact hA.2
theorem zo_unsettle {M m s : yb_S} (hW : zW M) (hA : zA M m s) {f : Nat} (hf : f < nF M) (h2 : M.1 195 f ≠ 2) : zs_P (f_X8_unsettle (zi f) s) (fun u => zA (zUn M f) m u) := by
  rcases (zw_f hW hf).2.2.1 with e | e | e
  · have hm1 : M.1 196 f = -1 := by
      rcases (zw_f hW hf).2.2.2.1 with ⟨q, -⟩ | ⟨-, q⟩
      · rw [e] at q
        exact absurd q (by decide)
      · exact q
    rw [zUn_0 e hm1]
    unfold f_X8_unsettle
    rw [zo_isIn hW hA hf, e]
    exact zs_ret hA
  · exact zo_unsettle1 hW hA hf e
  · exact absurd e h2
theorem zm_houseN {M o s : yb_S} (hW : zW M) (hQ : zQ M o s) {f : Nat} (hf : f < nF M) : zs_P (f_X12_houses (zi f) (-1) s) (fun u => zQ (zUn M f) o u) := by
  have h8 := zw_F8 hW
  unfold f_X12_houses j_X12_houses_15
  rw [if_pos rfl, zi_wr (by omega) (by omega), Option.bind_some, zi_wr (by omega) (by omega), Option.bind_some]
  exact zs_ret (zQ_e (zQ_e hQ (by omega)) (by omega))
theorem zm_houseH {M o s : yb_S} (hW : zW M) (hQ : zQ M o s) {f h : Nat} (hf : f < nF M) (hh : h < nH M) : zs_P (f_X12_houses (zi f) (zi h) s) (fun u => zQ (zHs M f h) o u) := by
  have h8 := zw_F8 hW
  have h9 := zw_H8 hW
  unfold f_X12_houses j_X12_houses_15
  rw [if_neg (by rw [show (-1 : Int32) = zm from rfl, zi_eqm (by omega)]; exact id), zi_wr (by omega) (by omega), Option.bind_some, zi_wr (by omega) (by omega), Option.bind_some]
  exact zs_ret (zQ_e (zQ_e hQ (by omega)) (by omega))
/-- a family is gone -/
def zGn (M : yb_S) (f : Nat) : yb_S := yb_pI (zUn M f) 195 f 2
theorem zGn_h {M : yb_S} {f : Nat} : zHous M (zGn M f) f := ⟨fun id k q => by
  unfold zGn
  rw [zu_rd]
  by_cases e : id = 195
  · have hk : k ≠ f := by omega
    rw [if_pos e, if_neg hk]
    exact zUn_h.1 id k q
  · rw [if_neg e]
    exact zUn_h.1 id k q, rfl⟩
theorem zGn_1 {M : yb_S} {f : Nat} : (zGn M f).1 195 f = 2 ∧ (zGn M f).1 196 f = -1 := by
  unfold zGn
  constructor
  · rw [zu_eq]
  · rw [zu_ne (by decide)]
    exact zUn_1.2
theorem zGn_W {M : yb_S} (hW : zW M) {f : Nat} (hf : f < nF M) : zW (zGn M f) :=
  zW_hous hW zGn_h (Or.inr (Or.inr zGn_1.1)) (Or.inr ⟨by rw [zGn_1.1]; decide, zGn_1.2⟩)
theorem zThere_gone {M : yb_S} {f : Nat} (hf : f < nF M) (h0 : M.1 195 f = 0) : zThere (yb_pI M 195 f 2) = zThere M - M.1 189 f := by
  unfold zThere
  rw [show nF (yb_pI M 195 f 2) = nF M from by unfold nF; rw [zu_ne (by decide)], zsum_upd (g := fun f => cond (M.1 195 f == 2) 0 (M.1 189 f)) hf (fun k hk h => by simp (disch := omega) only [zu_ne, zu_id, if_neg])]
  simp (disch := omega) only [zu_ne, zu_id, ↓reduceIte]
  rw [h0, show ((0 : Int32) == 2) = false from by decide, show ((2 : Int32) == 2) = true from by decide]
  simp
theorem zR_gone {o M : yb_S} (hW : zW M) (hR : zR o M) {f : Nat} (hf : f < nF M) (h0 : M.1 195 f = 0) : zR (yb_pI (yb_pI o 28 f 2) 1 7 (o.1 1 7 - M.1 189 f)) (yb_pI M 195 f 2) := by
  have hH : zHous M (yb_pI M 195 f 2) f := ⟨fun id k q => by
    rw [zu_rd]
    by_cases e : id = 195
    · have hk : k ≠ f := by omega
      rw [if_pos e, if_neg hk]
    · rw [if_neg e], rfl⟩
  have eT : ∀ g, zTown (yb_pI M 195 f 2) g = zTown M g := fun g => by
    by_cases e : g = f
    · subst e
      rw [zTown_0 (by rw [zu_eq]; decide), zTown_0 (by rw [h0]; decide)]
    · exact zTown_o hH e
  have n1 : nF (yb_pI M 195 f 2) = nF M := by unfold nF; rw [zu_ne (by decide)]
  have n2 : nH (yb_pI M 195 f 2) = nH M := by unfold nH; rw [zu_ne (by decide)]
  have hC : zRc o (yb_pI M 195 f 2) := by
    obtain ⟨r1, r2, r3⟩ := hR.2.1
    refine ⟨fun T hT => ?_, fun g hg => ?_, fun g hg => ?_⟩
    · obtain ⟨q1, q2, q3, q4⟩ := r1 T hT
      refine ⟨?_, ?_, ?_, ?_⟩
      · rw [zRooms_u hH]
        exact q1
      · rw [zHeads_u hf hH, eT, q2]
        generalize cond (zTown M f == zi T) (M.1 189 f) 0 = a
        generalize zHeads M (zi T) = b
        grind
      · rw [zPup_u hf hH, eT, q3]
        generalize cond (zi f != -1 && zTown M f == zi T) (M.1 190 f) 0 = a
        generalize zPup M (zi T) (-1) = b
        grind
      · rw [q4]
        unfold zLodg
        rw [n1]
        exact zbits_congr fun k hk => by rw [eT]
    · rw [n2] at hg
      rw [r2 g hg]
      unfold zLodger
      rw [n1]
      congr 1
      refine zfind_congr fun k hk => ?_
      by_cases e : k = f
      · subst e
        rw [h0, zu_eq]
        rfl
      · rw [hH.1 195 k (Or.inr e), hH.1 196 k (Or.inr e)]
    · rw [n1] at hg
      rw [eT]
      exact r3 g hg
  have key : zR (yb_pI o 28 f 2) (yb_pI M 195 f 2) ∨ True := Or.inr trivial
  obtain ⟨r1, r2, r3, r4, r5, r6, r7, r8, r9, r10, r11, r12, r13⟩ := hR
  have c : ∀ {id}, id ≠ 195 → id ≠ 196 → (yb_pI M 195 f 2).1 id = M.1 id := fun h1 h2 => zHous_c hH h1 h2
  have d : ∀ {id k}, (id ≠ 28 ∧ id ≠ 1) → (yb_pI (yb_pI o 28 f 2) 1 7 (o.1 1 7 - M.1 189 f)).1 id k = o.1 id k := fun h => by rw [zu_ne h.2, zu_ne h.1]
  refine ⟨?_, ?_, ?_, ?_, ?_, ?_, ?_, ?_, ?_, ?_, ?_, ?_, ?_⟩
  · have q := r1
    simp (disch := omega) only [zRt, nT, c, d] at q ⊢
    exact q
  · simp (disch := omega) only [zRc, d] at hC ⊢
    exact hC
  · have q := r3
    simp (disch := omega) only [zRh, nH, c, d] at q ⊢
    exact q
  · refine ⟨by rw [d (by omega), c (by decide) (by decide)]; exact r4.1, fun k hk => ?_⟩
    rw [n1] at hk
    have q := r4.2 k hk
    simp (disch := omega) only [c, d]
    rw [zu_ne (by decide), zu_id, zu_id, zu_ne (by decide : (196 : Nat) ≠ 195)]
    by_cases e : k = f
    · subst e
      rw [if_pos rfl, if_pos rfl]
      exact ⟨q.1, q.2.1, q.2.2.1, q.2.2.2.1, q.2.2.2.2.1, q.2.2.2.2.2.1, rfl, q.2.2.2.2.2.2.2⟩
    · rw [if_neg e, if_neg e]
      exact q
  · have q := r5
    simp (disch := omega) only [zRa, c, d] at q ⊢
    exact q
  · have q := r6
    simp (disch := omega) only [zRr, nR, nK, c, d] at q ⊢
    exact q
  · have q := r7
    simp (disch := omega) only [zRk, zKin, zFinds, zHit, zOf, nR, nK, nF, c, d] at q ⊢
    exact q
  · have q := r8
    simp (disch := omega) only [zRl, nS, c, d] at q ⊢
    exact q
  · refine ⟨?_, ?_, ?_⟩
    · rw [zu_id, if_neg (by decide), zu_ne (by decide), c (by decide) (by decide)]
      exact r9.1
    · rw [zu_id, if_neg (by decide), zu_ne (by decide), c (by decide) (by decide)]
      exact r9.2.1
    · rw [zu_eq, zThere_gone hf h0, ← r9.2.2]
  · have q := r10
    simp (disch := omega) only [zRx, nX, c, d] at q ⊢
    exact q
  · have q := r11
    simp (disch := omega) only [zRp, nF, c, d] at q ⊢
    exact q
  · have q := r12
    simp (disch := omega) only [zRb, nD, nF, nT, c, d] at q ⊢
    exact q
  · have q := r13
    simp (disch := omega) only [zRg, nB, nG, c, d] at q ⊢
    exact q
theorem zi_58 {M : yb_S} {f : Nat} {x : Int32} {id : Nat} (h : id ≠ 176) : (yb_pI M id f x).1 176 58 = M.1 176 58 := zu_ne (Ne.symm h)
theorem ze_30 : ∀ (a1 : Int32) (s : yb_S), zInv s → ∃ (r : Int32) (s1 s2 : yb_S), f_X11_leave a1 s = some (r, s1) ∧ f_X12_leave a1 s1 = some (r, s2) ∧ zInv s2 := by
  intro a1 s h
  have hW := h.1
  have h8 := zw_F8 hW
  by_cases hc : ∃ f, f < nF (zP s) ∧ a1 = zi f ∧ (zP s).1 195 f ≠ 2
  · obtain ⟨f, hf, rfl, h2⟩ := hc
    have hWu := zUn_W hW hf
    have hfu : f < nF (zUn (zP s) f) := by rw [(zN_hous zUn_h).1]; exact hf
    refine z_call h 1 (zGn (zP s) f) (fun m t hA => ?_) (fun o t hQ => ?_) (zGn_W hW hf) ?_
    · unfold f_X11_leave
      rw [zo_isHere hW hA hf, show ((zP s).1 195 f == 2) = false from beq_eq_false_iff_ne.mpr h2, Option.bind_some, if_neg (by decide)]
      refine zs_bind (zo_unsettle hW hA hf h2) fun u hu => ?_
      rw [zi_wr (by omega) (by omega), Option.bind_some, zi_rd (by omega) (by omega), Option.bind_some, Option.bind_some, zu_ne (by decide), zu_ne (by decide), cq_22 hu hfu]
      refine zs_ret ⟨rfl, ?_, ?_⟩
      · simp (disch := omega) only [zP_e, zP_s, zP_k, zP_k0, zP_Ls, zP_Le, zO_e, zO_s, zO_92, zO_92s, zO_100, zO_100s, zO_Ls, zO_Le]
        exact zR_gone hWu hu.1 hfu zUn_1.1
      · simp (disch := omega) only [zHm_pI]
        exact hu.2
    · unfold f_X12_leave
      rw [zm_hFt hW hQ hf, Option.bind_some, if_neg (by decide), zi_rd (by omega) (by omega), Option.bind_some, zq hQ (by omega), if_neg h2]
      refine zs_bind (zm_houseN hW hQ hf) fun u hu => ?_
      rw [zi_wr (by omega) (by omega), Option.bind_some]
      exact zs_ret ⟨rfl, zQ_e hu (by omega)⟩
    · rw [zHous_c zGn_h (by decide) (by decide)]
      exact z_b58 h
  · refine z_ask h 0 (fun m t hA => ?_) (fun o t hQ => ?_)
    · unfold f_X11_leave
      by_cases hf : zin a1 (nF (zP s))
      · obtain ⟨f, hf, rfl⟩ := hf
        have e : (zP s).1 195 f = 2 := Classical.byContradiction fun q => hc ⟨f, hf, rfl, q⟩
        rw [zo_isHere hW hA hf, e]
        exact zs_ret ⟨rfl, hA⟩
      · rw [zo_isHere0 hW hA hf]
        exact zs_ret ⟨rfl, hA⟩
    · unfold f_X12_leave
      by_cases hf : zin a1 (nF (zP s))
      · obtain ⟨f, hf, rfl⟩ := hf
        have e : (zP s).1 195 f = 2 := Classical.byContradiction fun q => hc ⟨f, hf, rfl, q⟩
        rw [zm_hFt hW hQ hf, Option.bind_some, if_neg (by decide), zi_rd (by omega) (by omega), Option.bind_some, zq hQ (by omega), if_pos e]
        exact zs_ret ⟨rfl, hQ⟩
      · rw [zm_hFf hW hQ hf]
        exact zs_ret ⟨rfl, hQ⟩
