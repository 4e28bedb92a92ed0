/-! move -/
theorem zHs_Un {M : yb_S} {f h : Nat} : zHs (zUn M f) f h = zHs M f h := by
  apply Prod.ext
  · funext a b
    unfold zHs zUn
    simp only [zu_rd]
    repeat' split
    all_goals first | rfl | (exfalso; omega)
  · rfl
theorem zBar_0 {M : yb_S} {f h : Nat} (e : zBar M f h = 0) : zLodger M h = -1 ∨ zLodger M h = zi f := by
  unfold zBar at e
  by_cases h1 : M.1 176 7 < M.1 187 h
  · rw [if_pos h1] at e
    exact absurd e (by decide)
  · rw [if_neg h1] at e
    by_cases h2 : M.1 176 7 ≤ M.1 188 h
    · rw [if_pos h2] at e
      by_cases h3 : zLodger M h = -1
      · exact Or.inl h3
      · rw [if_neg h3] at e
        by_cases h4 : zLodger M h = zi f
        · exact Or.inr h4
        · rw [if_neg h4] at e
          exact absurd e (by decide)
    · rw [if_neg h2] at e
      exact absurd e (by decide)
theorem zFree_of {M : yb_S} (hW : zW M) {f h : Nat} (hf : f < nF M) (e : zBar M f h = 0) (hn : ¬ (M.1 195 f = 1 ∧ M.1 196 f = zi h)) : zFree M h := by
  have h8 := zw_F8 hW
  rcases zLodger_cases (M := M) (h := h) h8 with ⟨-, q⟩ | ⟨g, hg, q1, q2, q3⟩
  · exact q
  · rcases zBar_0 e with q | q
    · rw [q1, show (zi g = -1) = False from zi_m1 (by omega)] at q
      exact q.elim
    · rw [q1, zi_inj (by omega) (by omega)] at q
      subst q
      exact absurd ⟨q2, q3⟩ hn
theorem zFree_Un {M : yb_S} {f h : Nat} (q : zFree M h) : zFree (zUn M f) h := by
  intro g hg h1
  rw [(zN_hous zUn_h).1] at hg
  by_cases e : g = f
  · subst e
    rw [zUn_1.1] at h1
    exact absurd h1 (by decide)
  · rw [zUn_h.1 195 g (Or.inr e)] at h1
    rw [zUn_h.1 196 g (Or.inr e)]
    exact q g hg h1
def zBr (M : yb_S) (f : Nat) (nw : Int32) (wn : Bool) : Int32 := (if M.1 190 f ≤ 0 then 0 else if nw = zTown M f then 0 else 1) + (if zWant M (zTown M f).toNatClampNeg f = true then (if wn = true then 0 else 2) else 0)
theorem zo_broken {M m s : yb_S} (hW : zW M) (hA : zA M m s) {f : Nat} {nw : Int32} {wn : Bool} (hf : f < nF M) (h1 : M.1 195 f = 1) (hn : f_X10_wants nw (M.1 193 f) s = some (zb wn)) : f_X8_brokenBy (zi f) nw s = some (zBr M f nw wn) := by
  have h8 := zw_F8 hW
  have h10 := zw_T8 hW
  obtain ⟨t, ht, eT, -⟩ : ∃ t, t < nT M ∧ zTown M f = zi t ∧ True := by
    rcases zTown_in hW hf with ⟨-, q, -⟩ | ⟨t, ht, e, -⟩
    · exact absurd h1 q
    · exact ⟨t, ht, e, trivial⟩
  unfold f_X8_brokenBy
  rw [zi_rd (by omega) (by omega), Option.bind_some, cq_30 hA hf, zi_rd (by omega) (by omega), Option.bind_some, cq_23 hA hf]
  have key : ∀ x : Int32, x = 0 ∨ x = 1 → j_X8_brokenBy_36 (zi f) nw (zTown M f) x s = some (x + (if zWant M (zTown M f).toNatClampNeg f = true then (if wn = true then 0 else 2) else 0)) := by
    intro x hx
    unfold j_X8_brokenBy_36
    rw [zi_rd (by omega) (by omega), Option.bind_some, cq_26 hA hf, eT, zo_wants hW hA ht, Option.bind_some, zi_tn (by omega)]
    simp only [Option.bind_some, hn, zb_t0]
    cases zWant M t f
    · rw [if_pos rfl, if_neg (by decide), Int32.add_zero]
    · rw [if_neg (by decide), if_pos rfl]
      cases wn
      · rw [if_pos rfl, if_neg (by decide)]
        rcases hx with rfl | rfl <;> rfl
      · rw [if_neg (by decide), if_pos rfl, Int32.add_zero]
  unfold zBr
  by_cases e1 : M.1 190 f ≤ 0
  · rw [if_pos e1, if_pos e1]
    exact key 0 (Or.inl rfl)
  · rw [if_neg e1, if_neg e1]
    by_cases e2 : nw = zTown M f
    · rw [if_pos e2, if_pos e2]
      exact key 0 (Or.inl rfl)
    · rw [if_neg e2, if_neg e2]
      exact key 1 (Or.inr rfl)
theorem zm_move71 {M o s : yb_S} (hW : zW M) (hQ : zQ M o s) {f : Nat} {nw a2 : Int32} {wn : Bool} {M' : yb_S} (hf : f < nF M) (h1 : M.1 195 f = 1) (hn : (nw = -1 ∧ wn = false) ∨ (nw ≠ -1 ∧ f_X12_wants nw (zi f) s = some (zb wn))) (hh : zs_P (f_X12_houses (zi f) a2 s) (fun u => zQ M' o u)) : zs_P (j_X12_move_71 (zi f) a2 (zTown M f) nw s) (fun q => q.1 = zBr M f nw wn ∧ zQ M' o q.2) := by
  have h8 := zw_F8 hW
  have h10 := zw_T8 hW
  obtain ⟨t, ht, eT, -⟩ : ∃ t, t < nT M ∧ zTown M f = zi t ∧ True := by
    rcases zTown_in hW hf with ⟨-, q, -⟩ | ⟨t, ht, e, -⟩
    · exact absurd h1 q
    · exact ⟨t, ht, e, trivial⟩
  have hend : ∀ x : Int32, zs_P (j_X12_move_123 (zi f) a2 x s) (fun q => q.1 = x ∧ zQ M' o q.2) := fun x => by
    unfold j_X12_move_123
    exact zs_bind hh fun u hu => zs_ret ⟨rfl, hu⟩
  have key : ∀ x : Int32, zs_P (j_X12_move_93 (zi f) a2 (zTown M f) nw x s) (fun q => q.1 = x + (if zWant M (zTown M f).toNatClampNeg f = true then (if wn = true then 0 else 2) else 0) ∧ zQ M' o q.2) := by
    intro x
    unfold j_X12_move_93 j_X12_move_120
    rw [eT, zm_wants hW hQ hf ht, Option.bind_some, zi_tn (by omega)]
    simp only [zb_t0]
    cases zWant M t f
    · rw [if_pos rfl, if_neg (by decide), Int32.add_zero]
      exact hend x
    · rw [if_neg (by decide), if_pos rfl]
      rcases hn with ⟨rfl, rfl⟩ | ⟨q1, q2⟩
      · rw [if_pos rfl, if_neg (by decide)]
        exact hend _
      · rw [if_neg q1, q2, Option.bind_some]
        simp only [zb_t0]
        cases wn
        · rw [if_pos rfl, if_neg (by decide)]
          exact hend _
        · rw [if_neg (by decide), if_pos rfl, Int32.add_zero]
          exact hend x
  unfold j_X12_move_71 j_X12_move_92 zBr
  rw [zi_rd (by omega) (by omega), Option.bind_some, zq hQ (by omega)]
  by_cases e1 : M.1 190 f ≤ 0
  · rw [if_pos e1, if_pos e1]
    exact key 0
  · rw [if_neg e1, if_neg e1]
    by_cases e2 : nw = zTown M f
    · rw [if_pos e2, if_pos e2.symm]
      exact key 0
    · rw [if_neg e2, if_neg (fun q => e2 q.symm)]
      exact key 1
theorem zo_wantsN {M m s : yb_S} (hW : zW M) (hA : zA M m s) {x : Int32} : f_X10_wants (-1) x s = some (zb false) := by
  unfold f_X10_wants
  rw [if_pos (by decide)]
  rfl
theorem ze_29 : ∀ (a1 a2 : Int32) (s : yb_S), zInv s → ∃ (r : Int32) (s1 s2 : yb_S), f_X11_move a1 a2 s = some (r, s1) ∧ f_X12_move a1 a2 s1 = some (r, s2) ∧ zInv s2 := by
  intro a1 a2 s h
  have hW := h.1
  have h8 := zw_F8 hW
  have h9 := zw_H8 hW
  have h10 := zw_T8 hW
  by_cases hc : ∃ f, f < nF (zP s) ∧ a1 = zi f ∧ (zP s).1 195 f = 1
  · obtain ⟨f, hf, rfl, h1⟩ := hc
    have hne2 : (zP s).1 195 f ≠ 2 := by
      rw [h1]
      decide
    have hm1 : ∀ {o t}, zQ (zP s) o t → (f_X12_isFamily (zi f) t).bind (fun q1 => if q1 = 0 then some ((-1 : Int32), t) else (f_X12_isHoused (zi f) t).bind fun q4 => if q4 = 0 then some ((-1 : Int32), t) else some (0, t)) = some (0, t) := fun {o t} hQ => by
      rw [zm_hFt hW hQ hf, Option.bind_some, if_neg (by decide), zm_isHoused hW hQ hf, h1, Option.bind_some, if_neg (by decide)]
    by_cases ha : a2 = -1
    · subst ha
      refine z_call h (zBr (zP s) f (-1) false) (zUn (zP s) f) (fun m t hA => ?_) (fun o t hQ => ?_) (zUn_W hW hf) ?_
      · unfold f_X11_move
        rw [zo_isIn hW hA hf, h1, Option.bind_some, if_neg (by decide), if_pos rfl, zo_broken hW hA hf h1 (zo_wantsN hW hA), Option.bind_some]
        exact zs_bind (zo_unsettle hW hA hf hne2) fun u hu => zs_ret ⟨rfl, hu⟩
      · unfold f_X12_move j_X12_move_50
        rw [zm_hFt hW hQ hf, Option.bind_some, if_neg (by decide), zm_isHoused hW hQ hf, h1, Option.bind_some, if_neg (by decide), if_pos rfl, zm_townFor hW hQ hf, Option.bind_some, if_pos rfl]
        exact zm_move71 hW hQ hf h1 (Or.inl ⟨rfl, rfl⟩) (zm_houseN hW hQ hf)
      · rw [zHous_c zUn_h (by decide) (by decide)]
        exact z_b58 h
    · by_cases hg : ∃ g, g < nH (zP s) ∧ a2 = zi g ∧ (zP s).1 196 f ≠ zi g ∧ zBar (zP s) f g = 0
      · obtain ⟨g, hg, rfl, hgf, hb⟩ := hg
        obtain ⟨htt, ett⟩ := zw_ht hW hg
        have hfr : zFree (zP s) g := zFree_of hW hf hb (fun q => hgf q.2)
        have hWu := zUn_W hW hf
        have hfu : f < nF (zUn (zP s) f) := by rw [(zN_hous zUn_h).1]; exact hf
        have hgu : g < nH (zUn (zP s) f) := by rw [(zN_hous zUn_h).2.1]; exact hg
        refine z_call h (zBr (zP s) f (zi (zHt (zP s) g)) (zWant (zP s) (zHt (zP s) g) f)) (zHs (zP s) f g) (fun m t hA => ?_) (fun o t hQ => ?_) ?_ ?_
        · unfold f_X11_move
          rw [zo_isIn hW hA hf, h1, Option.bind_some, if_neg (by decide), if_neg ha, zo_hHt hW hA hg, Option.bind_some, if_neg (by decide), zi_rd (by omega) (by omega), Option.bind_some, cq_29 hA hf, if_neg hgf]
          refine zs_bind (zo_barOf hW hA hf hg) fun a hq => ?_
          have hAa := zfo_A hq.2 hA
          rw [hq.1, if_pos hb, zi_rd (by omega) (by omega), Option.bind_some, cq_14 hAa hg, ett, zo_broken hW hAa hf h1 (zo_wants hW hAa htt), Option.bind_some]
          refine zs_bind (zo_unsettle hW hAa hf hne2) fun u hu => ?_
          refine zs_bind (zo_settle hWu hu hfu hgu zUn_1.1 (zFree_Un hfr)) fun v hv => ?_
          rw [zHs_Un] at hv
          exact zs_ret ⟨rfl, hv⟩
        · unfold f_X12_move j_X12_move_50
          rw [zm_hFt hW hQ hf, Option.bind_some, if_neg (by decide), zm_isHoused hW hQ hf, h1, Option.bind_some, if_neg (by decide), if_neg ha, zm_hHt hW hQ hg, Option.bind_some, if_neg (by decide), zi_rd (by omega) (by omega), Option.bind_some, zq hQ (by omega), if_neg (fun q => hgf q.symm)]
          refine zs_bind (zm_barOf hW hQ hf hg) fun a hq => ?_
          have hQa := zG_Q hq.2 hQ
          rw [hq.1, if_pos hb, zm_townFor hW hQa hf, Option.bind_some, if_neg ha, zi_rd (by omega) (by omega), Option.bind_some, zq hQa (by omega), ett]
          exact zm_move71 hW hQa hf h1 (Or.inr ⟨by rw [show (-1 : Int32) = zm from rfl, ne_eq, zi_eqm (by omega)]; exact id, zm_wants hW hQa hf htt⟩) (zm_houseH hW hQa hf hg)
        · rw [← zHs_Un]
          exact zHs_W hWu hfu hgu zUn_1.1 (zFree_Un hfr)
        · rw [zHous_c zHs_h (by decide) (by decide)]
          exact z_b58 h
      · refine z_ask h (-1) (fun m t hA => ?_) (fun o t hQ => ?_)
        · unfold f_X11_move
          rw [zo_isIn hW hA hf, h1, Option.bind_some, if_neg (by decide), if_neg ha]
          by_cases hz : zin a2 (nH (zP s))
          · obtain ⟨g, hgh, rfl⟩ := hz
            rw [zo_hHt hW hA hgh, Option.bind_some, if_neg (by decide), zi_rd (by omega) (by omega), Option.bind_some, cq_29 hA hf]
            by_cases e : (zP s).1 196 f = zi g
            · rw [if_pos e]
              exact zs_ret ⟨rfl, hA⟩
            · rw [if_neg e]
              refine zs_bind (zo_barOf hW hA hf hgh) fun a hq => ?_
              rw [hq.1, if_neg (fun q => hg ⟨g, hgh, rfl, e, q⟩)]
              exact zs_ret ⟨rfl, zfo_A hq.2 hA⟩
          · rw [zo_hHf hW hA hz]
            exact zs_ret ⟨rfl, hA⟩
        · unfold f_X12_move
          rw [zm_hFt hW hQ hf, Option.bind_some, if_neg (by decide), zm_isHoused hW hQ hf, h1, Option.bind_some, if_neg (by decide), if_neg ha]
          by_cases hz : zin a2 (nH (zP s))
          · obtain ⟨g, hgh, rfl⟩ := hz
            rw [zm_hHt hW hQ hgh, Option.bind_some, if_neg (by decide), zi_rd (by omega) (by omega), Option.bind_some, zq hQ (by omega)]
            by_cases e : zi g = (zP s).1 196 f
            · rw [if_pos e]
              exact zs_ret ⟨rfl, hQ⟩
            · rw [if_neg e]
              refine zs_bind (zm_barOf hW hQ hf hgh) fun a hq => ?_
              rw [hq.1, if_neg (fun q => hg ⟨g, hgh, rfl, fun x => e x.symm, q⟩)]
              exact zs_ret ⟨rfl, zG_Q hq.2 hQ⟩
          · rw [zm_hHf hW hQ hz]
            exact zs_ret ⟨rfl, hQ⟩
  · refine z_ask h (-1) (fun m t hA => ?_) (fun o t hQ => ?_)
    · unfold f_X11_move
      by_cases hf : zin a1 (nF (zP s))
      · obtain ⟨f, hf, rfl⟩ := hf
        rw [zo_isIn hW hA hf, beq_eq_false_iff_ne.mpr (fun q => hc ⟨f, hf, rfl, q⟩)]
        exact zs_ret ⟨rfl, hA⟩
      · rw [zo_isIn0 hW hA hf]
        exact zs_ret ⟨rfl, hA⟩
    · unfold f_X12_move
      by_cases hf : zin a1 (nF (zP s))
      · obtain ⟨f, hf, rfl⟩ := hf
        rw [zm_hFt hW hQ hf, Option.bind_some, if_neg (by decide), zm_isHoused hW hQ hf, beq_eq_false_iff_ne.mpr (fun q => hc ⟨f, hf, rfl, q⟩)]
        exact zs_ret ⟨rfl, hQ⟩
      · rw [zm_hFf hW hQ hf]
        exact zs_ret ⟨rfl, hQ⟩
