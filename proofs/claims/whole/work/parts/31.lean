/-! show, is, count, told, passed, why, night, lead -/
theorem zNf_own {M : yb_S} {f k : Nat} {own : Int32} (hk : k < 18) : (if k = 17 then own else zNf M f 0 k) = zNf M f own k := by
  unfold zNf zN0
  by_cases e : k = 17
  · subst e
    simp
  · rw [if_neg e, if_neg e, if_neg e]
theorem z_not_lo {x : Int32} {n : Nat} (hn : n ≤ 100) (h : x < 100) : ¬ zin (x - 100) n := by
  rintro ⟨k, hk, e⟩
  have e2 : x = zi (k + 100) := by
    rw [← zi_add, ← e, show zi 100 = (100 : Int32) from rfl, Int32.sub_add_cancel]
  rw [e2, show (100 : Int32) = zi 100 from rfl, zi_lt (by omega) (by omega)] at h
  omega
theorem zin_hi {x : Int32} {n : Nat} (hn : n ≤ 100) (h : zin x n) : x < 100 := by
  obtain ⟨k, hk, rfl⟩ := h
  rw [show (100 : Int32) = zi 100 from rfl, zi_lt (by omega) (by omega)]
  omega
def zShown (M : yb_S) (who : Int32) (f : Nat) : Prop := zTell M 5 (zNf M f (if who = zi f then 1 else 0)) = 1 ∨ (¬ who < 100 ∧ zTown M f = who - 100)
def zWhat (M : yb_S) (f : Nat) (what : Int32) : Int32 := if what = 0 then M.1 195 f else if what = 1 then zTown M f else if what = 2 then M.1 189 f else if what = 3 then M.1 197 f else -1
theorem zo_isShown {M m s : yb_S} (hW : zW M) (hA : zA M m s) {f : Nat} {who : Int32} (hf : f < nF M) : zs_P (f_X8_isShown who (zi f) s) (fun a => (zShown M who f → a.1 = 1) ∧ (¬ zShown M who f → a.1 = 0) ∧ zfo s a.2) := by
  have h8 := zw_F8 hW
  have hT : ¬ (¬ who < 100 ∧ zTown M f = who - 100) → zs_P (j_X8_isShown_27 who (zi f) 0 s) (fun a => (zShown M who f → a.1 = 1) ∧ (¬ zShown M who f → a.1 = 0) ∧ zfo s a.2) := by
    intro hno
    have e : j_X8_isShown_27 who (zi f) 0 s = j_X8_isShown_47 (if who = zi f then 1 else 0) (-1) (-1) (zi f) 5 s := by
      unfold j_X8_isShown_27
      rw [if_pos rfl]
      split <;> rfl
    rw [e]
    unfold j_X8_isShown_47
    refine zs_bind (zo_tellsF hW hA (c := 5) (own := if who = zi f then 1 else 0) (by decide) hf) fun a ha => ?_
    rw [ha.1]
    by_cases h1 : zTell M 5 (zNf M f (if who = zi f then 1 else 0)) = 1
    · rw [if_pos h1]
      exact zs_ret ⟨fun _ => rfl, fun q => absurd (Or.inl h1) q, ha.2⟩
    · rw [if_neg h1]
      refine zs_ret ⟨fun q => ?_, fun _ => rfl, ha.2⟩
      rcases q with q | q
      · exact absurd q h1
      · exact absurd q hno
  unfold f_X8_isShown j_X8_isShown_26
  by_cases h1 : who < 100
  · rw [if_pos h1]
    exact hT (fun q => q.1 h1)
  · rw [if_neg h1, zi_rd (by omega) (by omega), Option.bind_some, cq_30 hA hf]
    by_cases h2 : zTown M f = who - 100
    · rw [if_pos h2]
      unfold j_X8_isShown_27
      rw [if_neg (by decide)]
      exact zs_ret ⟨fun _ => rfl, fun q => absurd (Or.inr ⟨h1, h2⟩) q, zfo_refl s⟩
    · rw [if_neg h2]
      exact hT (fun q => h2 q.2)
theorem zo_canAsk {M m s : yb_S} (hW : zW M) (hA : zA M m s) {who : Int32} : (zin who (nF M) ∨ zin (who - 100) (nT M) → f_X8_canAsk who s = some 1) ∧ (¬ (zin who (nF M) ∨ zin (who - 100) (nT M)) → f_X8_canAsk who s = some 0) := by
  have h8 := zw_F8 hW
  have h9 := zw_T8 hW
  unfold f_X8_canAsk
  by_cases hf : zin who (nF M)
  · obtain ⟨f, hf, rfl⟩ := hf
    rw [zo_hFt hW hA hf]
    exact ⟨fun _ => rfl, fun q => absurd (Or.inl ⟨f, hf, rfl⟩) q⟩
  · rw [zo_hFf hW hA hf, Option.bind_some, if_pos rfl]
    by_cases h1 : who < 100
    · rw [if_pos h1]
      exact ⟨fun q => by rcases q with q | q; exact absurd q hf; exact absurd q (z_not_lo (by omega) h1), fun _ => rfl⟩
    · rw [if_neg h1]
      by_cases ht : zin (who - 100) (nT M)
      · obtain ⟨t, ht2, e⟩ := ht
        rw [e, zo_hTt hW hA ht2]
        exact ⟨fun _ => rfl, fun q => absurd (Or.inr ⟨t, ht2, rfl⟩) q⟩
      · rw [zo_hTf hW hA ht]
        exact ⟨fun q => by rcases q with q | q; exact absurd q hf; exact absurd q ht, fun _ => rfl⟩
theorem zin_3 {x : Int32} : (0 ≤ x ∧ x ≤ 3) ↔ (x = 0 ∨ x = 1 ∨ x = 2 ∨ x = 3) := by
  constructor
  · rintro ⟨q1, q2⟩
    rcases zi_cases x with q3 | ⟨k, hk, rfl⟩
    · exact absurd q1 (Int32.not_le.mpr q3)
    · rw [show (3 : Int32) = zi 3 from rfl, zi_le hk (by decide)] at q2
      have : k = 0 ∨ k = 1 ∨ k = 2 ∨ k = 3 := by omega
      rcases this with rfl | rfl | rfl | rfl
      · exact Or.inl rfl
      · exact Or.inr (Or.inl rfl)
      · exact Or.inr (Or.inr (Or.inl rfl))
      · exact Or.inr (Or.inr (Or.inr rfl))
  · rintro (rfl | rfl | rfl | rfl) <;> decide
theorem zm_show109 {M o s : yb_S} (hW : zW M) (hQ : zQ M o s) {f : Nat} {what : Int32} (hf : f < nF M) (hw : 0 ≤ what ∧ what ≤ 3) : j_X12_show_109 (zi f) what s = some (zWhat M f what, s) := by
  have h8 := zw_F8 hW
  unfold j_X12_show_109 zWhat
  rw [zm_townFor hW hQ hf]
  simp (disch := omega) only [zi_rd, Option.bind_some, zq hQ]
  rcases zin_3.mp hw with rfl | rfl | rfl | rfl <;> rfl
theorem ze_36 : ∀ (a1 a2 a3 : Int32) (s : yb_S), zInv s → ∃ (r : Int32) (s1 s2 : yb_S), f_X11_show a1 a2 a3 s = some (r, s1) ∧ f_X12_show a1 a2 a3 s1 = some (r, s2) ∧ zInv s2 := by
  intro a1 a2 a3 s h
  have hW := h.1
  have h8 := zw_F8 hW
  have h9 := zw_T8 hW
  by_cases hf : zin a2 (nF (zP s))
  · obtain ⟨f, hf, rfl⟩ := hf
    by_cases hc : zin a1 (nF (zP s)) ∨ zin (a1 - 100) (nT (zP s))
    · have hm27 : ∀ (r : Int32), (0 ≤ a3 ∧ a3 ≤ 3 → r = if zTell (zP s) 5 (zNf (zP s) f (if a1 = zi f then 1 else 0)) = 1 ∨ (¬ a1 < 100 ∧ zTown (zP s) f = a1 - 100) then zWhat (zP s) f a3 else -1) → (¬ (0 ≤ a3 ∧ a3 ≤ 3) → r = -1) → ∀ o t, zQ (zP s) o t → zs_P (f_X12_show a1 (zi f) a3 t) (fun q => q.1 = r ∧ zQ (zP s) o q.2) := by
        intro r hr1 hr2 o t hQ
        have key : zs_P (j_X12_show_27 a1 (zi f) a3 t) (fun q => q.1 = r ∧ zQ (zP s) o q.2) := by
          unfold j_X12_show_27
          rw [z_in (l := 0) (h := 3) (lo := 0) (hi := 3) (by decide) (by decide)]
          by_cases hw : 0 ≤ a3 ∧ a3 ≤ 3
          · rw [if_pos hw, if_neg (by decide)]
            refine zs_bind (zm_asksOf hW hQ hf) fun u hu => ?_
            have e : (if a1 = zi f then j_X12_show_62 a1 (zi f) a3 (1 : Int32) (17 : Int32) u else j_X12_show_62 a1 (zi f) a3 (0 : Int32) (17 : Int32) u) = j_X12_show_62 a1 (zi f) a3 (if a1 = zi f then 1 else 0) (17 : Int32) u := by
              split <;> rfl
            rw [e]
            generalize hown : (if a1 = zi f then (1 : Int32) else 0) = own at *
            unfold j_X12_show_62 j_X12_show_90
            rw [show (17 : Int32) = zi 17 from rfl, zi_wr (by omega) (by omega), Option.bind_some]
            have hG := zK_w (k := 17) (x := own) (zfn_G hu.2)
            have hQv := zG_Q hG hQ
            have hnm : ∀ k, k < 18 → (yb_pI u 337 17 own).1 337 k = zNf (zP s) f own k := fun k hk => by
              rw [zu_id, hu.1 k hk]
              exact zNf_own hk
            have key2 : ∀ y : Int32, ((¬ a1 < 100 ∧ zTown (zP s) f = a1 - 100) → y = 1) → (¬ (¬ a1 < 100 ∧ zTown (zP s) f = a1 - 100) → y = 0) → zs_P (j_X12_show_91 (zi f) a3 y (yb_pI u 337 17 own)) (fun q => q.1 = r ∧ zQ (zP s) o q.2) := by
              intro y hy1 hy0
              unfold j_X12_show_91
              refine zs_bind (zm_tells hW hQv (c := 5) (by decide) hnm) fun a ha => ?_
              have hQa := zG_Q (zG_trans hG (zfs_G ha.2)) hQ
              rw [ha.1, hr1 hw]
              by_cases h1 : zTell (zP s) 5 (zNf (zP s) f own) = 1
              · rw [if_pos h1, if_pos (Or.inl h1), zm_show109 hW hQa hf hw]
                exact zs_ret ⟨rfl, hQa⟩
              · rw [if_neg h1]
                by_cases h2 : ¬ a1 < 100 ∧ zTown (zP s) f = a1 - 100
                · rw [hy1 h2, if_neg (by decide), if_pos (Or.inr h2), zm_show109 hW hQa hf hw]
                  exact zs_ret ⟨rfl, hQa⟩
                · rw [hy0 h2, if_pos rfl, if_neg (fun q => by rcases q with q | q; exact h1 q; exact h2 q)]
                  exact zs_ret ⟨rfl, hQa⟩
            by_cases ht : zin (a1 - 100) (nT (zP s))
            · have h100 : ¬ a1 < 100 := fun q => z_not_lo (by omega) q ht
              obtain ⟨t', ht', e⟩ := ht
              rw [e, zm_hTt hW hQv ht', Option.bind_some, if_neg (by decide), zm_townFor hW hQv hf, Option.bind_some, ← e]
              by_cases h2 : zTown (zP s) f = a1 - 100
              · rw [if_pos h2]
                exact key2 1 (fun _ => rfl) (fun q => absurd ⟨h100, h2⟩ q)
              · rw [if_neg h2]
                exact key2 0 (fun q => absurd q.2 h2) (fun _ => rfl)
            · rw [zm_hTf hW hQv ht, Option.bind_some, if_pos rfl]
              refine key2 0 (fun q => ?_) (fun _ => rfl)
              exact absurd (zin_hi (by omega) (hc.resolve_right ht)) q.1
          · rw [if_neg hw, if_pos rfl, hr2 hw]
            exact zs_ret ⟨rfl, hQ⟩
        unfold f_X12_show
        rw [zm_hFt hW hQ hf, Option.bind_some, if_neg (by decide)]
        by_cases hwf : zin a1 (nF (zP s))
        · obtain ⟨g, hg, rfl⟩ := hwf
          rw [zm_hFt hW hQ hg, Option.bind_some, if_neg (by decide)]
          exact key
        · rw [zm_hFf hW hQ hwf, Option.bind_some, if_pos rfl]
          obtain ⟨t', ht', e⟩ := hc.resolve_left hwf
          rw [e, zm_hTt hW hQ ht', Option.bind_some, if_neg (by decide)]
          exact key
      by_cases hs : zShown (zP s) a1 f
      · refine z_ask h (zWhat (zP s) f a3) (fun m t hA => ?_) (hm27 _ (fun _ => (if_pos hs).symm) (fun q => ?_))
        · unfold f_X11_show
          rw [zo_hFt hW hA hf, Option.bind_some, if_neg (by decide), (zo_canAsk hW hA).1 hc, Option.bind_some, if_neg (by decide)]
          refine zs_bind (zo_isShown hW hA (who := a1) hf) fun a ha => ?_
          have hAa := zfo_A ha.2.2 hA
          rw [ha.1 hs, if_neg (by decide)]
          unfold zWhat
          simp (disch := omega) only [zi_rd, Option.bind_some, cq_28 hAa, cq_30 hAa, cq_22 hAa, cq_31 hAa]
          repeat' split
          all_goals exact zs_ret ⟨rfl, hAa⟩
        · unfold zWhat
          rw [zin_3] at q
          rw [if_neg (fun e => q (Or.inl e)), if_neg (fun e => q (Or.inr (Or.inl e))), if_neg (fun e => q (Or.inr (Or.inr (Or.inl e)))), if_neg (fun e => q (Or.inr (Or.inr (Or.inr e))))]
      · refine z_ask h (-1) (fun m t hA => ?_) (hm27 _ (fun _ => (if_neg hs).symm) (fun q => rfl))
        unfold f_X11_show
        rw [zo_hFt hW hA hf, Option.bind_some, if_neg (by decide), (zo_canAsk hW hA).1 hc, Option.bind_some, if_neg (by decide)]
        refine zs_bind (zo_isShown hW hA (who := a1) hf) fun a ha => ?_
        rw [ha.2.1 hs, if_pos rfl]
        exact zs_ret ⟨rfl, zfo_A ha.2.2 hA⟩
    · refine z_ask h (-1) (fun m t hA => ?_) (fun o t hQ => ?_)
      · unfold f_X11_show
        rw [zo_hFt hW hA hf, Option.bind_some, if_neg (by decide), (zo_canAsk hW hA).2 hc]
        exact zs_ret ⟨rfl, hA⟩
      · unfold f_X12_show
        rw [zm_hFt hW hQ hf, Option.bind_some, if_neg (by decide), zm_hFf hW hQ (fun q => hc (Or.inl q)), Option.bind_some, if_pos rfl, zm_hTf hW hQ (fun q => hc (Or.inr q))]
        exact zs_ret ⟨rfl, hQ⟩
  · refine z_ask h (-1) (fun m t hA => ?_) (fun o t hQ => ?_)
    · unfold f_X11_show
      rw [zo_hFf hW hA hf]
      exact zs_ret ⟨rfl, hA⟩
    · unfold f_X12_show
      rw [zm_hFf hW hQ hf]
      exact zs_ret ⟨rfl, hQ⟩
def zIs (M : yb_S) (t : Nat) (what : Int32) : Int32 := if what = 0 then M.1 177 t else if what = 1 then zHeads M (zi t) else if what = 2 then M.1 179 t - zPup M (zi t) (-1) else if what = 3 then (if M.2 181 t ≤ 2000000000 then (M.2 181 t).toInt32 else 2000000000) else if what = 4 then (if M.1 182 t = 0 then 0 else 1) else if what = 5 then (if 0 ≤ zLack M t then zLack M t else 0) else -1
theorem ze_45 : ∀ (a1 a2 : Int32) (s : yb_S), zInv s → ∃ (r : Int32) (s1 s2 : yb_S), f_X11_is a1 a2 s = some (r, s1) ∧ f_X12_is a1 a2 s1 = some (r, s2) ∧ zInv s2 := by
  intro a1 a2 s h
  have hW := h.1
  have h9 := zw_T8 hW
  by_cases hf : zin a1 (nT (zP s))
  · obtain ⟨t, ht, rfl⟩ := hf
    refine z_ask h (zIs (zP s) t a2) (fun m u hA => ?_) (fun o u hQ => ?_)
    · unfold f_X11_is zIs
      rw [zo_hTt hW hA ht, Option.bind_some, if_neg (by decide)]
      simp (disch := omega) only [zi_rd, zi_rl, Option.bind_some, cq_3 hA, cq_9 hA, cq_5 hA, cq_10 hA, cq_12 hA, cq_7 hA]
      split
      · exact zs_ret ⟨rfl, hA⟩
      split
      · exact zs_ret ⟨rfl, hA⟩
      split
      · exact zs_ret ⟨rfl, hA⟩
      split
      · refine zs_ret ⟨?_, hA⟩
        unfold yb_minl
        by_cases q : (zP s).2 181 t < 2000000000
        · rw [if_pos q, if_pos (Int64.le_of_lt q)]
        · rw [if_neg q]
          by_cases q2 : (zP s).2 181 t ≤ 2000000000
          · rw [if_pos q2, Int64.le_antisymm q2 (Int64.not_lt.mp q)]
          · rw [if_neg q2]
            rfl
      split
      · split
        · exact zs_ret ⟨rfl, hA⟩
        · exact zs_ret ⟨rfl, hA⟩
      split
      · refine zs_bind (zo_lack hW hA ht) fun a ha => ?_
        refine zs_ret ⟨?_, zfo_A ha.2 hA⟩
        rw [ha.1]
        unfold yb_max
        by_cases q : 0 < zLack (zP s) t
        · rw [if_pos q, if_pos (Int32.le_of_lt q)]
        · rw [if_neg q]
          by_cases q2 : 0 ≤ zLack (zP s) t
          · rw [if_pos q2, Int32.le_antisymm q2 (Int32.not_lt.mp q)]
          · rw [if_neg q2]
      · exact zs_ret ⟨rfl, hA⟩
    · unfold f_X12_is zIs
      rw [zm_hTt hW hQ ht, Option.bind_some, if_neg (by decide), zm_headsIn hW hQ, zm_pupilsIn hW hQ]
      simp (disch := omega) only [zi_rd, zi_rl, Option.bind_some, zq hQ, zql hQ]
      split
      · exact zs_ret ⟨rfl, hQ⟩
      split
      · exact zs_ret ⟨rfl, hQ⟩
      split
      · exact zs_ret ⟨rfl, hQ⟩
      split
      · have e2 : (lg_cmp ((zP s).2 181 t) 2000000000 ≤ 0) = ((zP s).2 181 t ≤ 2000000000) := by
          rw [← Int32.not_lt, lg_cmp_gt, Int64.not_lt]
        simp only [e2]
        split
        · exact zs_ret ⟨rfl, hQ⟩
        · exact zs_ret ⟨rfl, hQ⟩
      split
      · split
        · exact zs_ret ⟨rfl, hQ⟩
        · exact zs_ret ⟨rfl, hQ⟩
      split
      · refine zs_bind (zm_lackOf hW hQ ht) fun a ha => ?_
        rw [ha.1]
        by_cases q : 0 ≤ zLack (zP s) t
        · rw [if_pos q]
          refine zs_bind (zm_lackOf hW (zG_Q ha.2 hQ) ht) fun b hb => ?_
          exact zs_ret ⟨by rw [hb.1, if_pos q], zG_Q (zG_trans ha.2 hb.2) hQ⟩
        · rw [if_neg q]
          exact zs_ret ⟨by rw [if_neg q], zG_Q ha.2 hQ⟩
      · exact zs_ret ⟨rfl, hQ⟩
  · refine z_ask h (-1) (fun m t hA => ?_) (fun o t hQ => ?_)
    · unfold f_X11_is
      rw [zo_hTf hW hA hf]
      exact zs_ret ⟨rfl, hA⟩
    · unfold f_X12_is
      rw [zm_hTf hW hQ hf]
      exact zs_ret ⟨rfl, hQ⟩
theorem zo_headsIn {M m s : yb_S} (hW : zW M) (hA : zA M m s) : f_X8_headsIn 0 s = some (zHall M) := by
  have h8 := zw_F8 hW
  unfold f_X8_headsIn l_X8_headsIn_4 zHall
  refine zs_upE (fun k => (zsum (fun f => cond (M.1 195 f == 0) (M.1 189 f) 0) k, zi k)) (nF M) _ ?_ ?_ yb_N 0 (Nat.zero_le _) (by unfold yb_N; omega)
  · intro k rc hk
    show f_X8_headsIn_4 _ _ _ (zsum _ k) (zi k) = _
    unfold f_X8_headsIn_4 j_X8_headsIn_40
    rw [zsum_succ, cq_F hA, zw_F hW, if_neg (by rw [zi_le (by omega) (by omega)]; omega)]
    simp (disch := omega) only [zi_rd, Option.bind_some, zi_succ, cq_28 hA, cq_22 hA]
    by_cases h2 : M.1 195 k = 0
    · simp [h2, zc_b, bne]
    · simp [h2, zc_b, bne]
  · intro rc
    show f_X8_headsIn_4 _ _ _ (zsum _ (nF M)) (zi (nF M)) = _
    unfold f_X8_headsIn_4
    rw [cq_F hA, zw_F hW, if_pos (Int32.le_refl _)]
theorem zmax0 {x y : Int32} {hh : Int32} (e : x = hh - y) (hx : hh = x + y) (h1 : ∃ a, a ≤ 100000 ∧ hh = zi a) (h2 : ∃ b, b ≤ 100000 ∧ y = zi b) : yb_max 0 x = if hh ≤ y then 0 else hh - y := by
  obtain ⟨a, ha, rfl⟩ := h1
  obtain ⟨b, hb, rfl⟩ := h2
  rw [e]
  unfold yb_max
  by_cases q : a ≤ b
  · rw [if_pos (show zi a ≤ zi b by rw [zi_le (by omega) (by omega)]; exact q)]
    by_cases q2 : a = b
    · subst q2
      rw [Int32.sub_self]
      rfl
    · have e3 : zi a - zi b = - zi (b - a) := by
        rw [← zi_subN (by omega : a ≤ b), Int32.neg_sub]
      rw [e3, if_neg]
      intro q3
      have q4 := Int32.lt_iff_toInt_lt.mp q3
      rw [zi_negI (by omega), show (0 : Int32).toInt = 0 from rfl] at q4
      omega
  · rw [if_neg (show ¬ zi a ≤ zi b by rw [zi_le (by omega) (by omega)]; exact q), zi_subN (by omega), if_pos]
    rw [show (0 : Int32) = zi 0 from rfl, zi_lt (by omega) (by omega)]
    omega
theorem zHall_le {M : yb_S} (hW : zW M) : ∃ a, a ≤ 240 ∧ zHall M = zi a := by
  have h8 := zw_F8 hW
  unfold zHall
  have : ∀ n, n ≤ nF M → ∃ a, a ≤ 10 * n ∧ zsum (fun f => cond (M.1 195 f == 0) (M.1 189 f) 0) n = zi a := by
    intro n
    induction n with
    | zero => intro _; exact ⟨0, by omega, rfl⟩
    | succ n ih =>
      intro hn
      obtain ⟨a, ha, e⟩ := ih (by omega)
      obtain ⟨q, hq, eq⟩ := (zw_f hW (f := n) (by omega)).1
      rw [zsum_succ, e, eq]
      cases M.1 195 n == 0
      · exact ⟨a, by omega, Int32.add_zero _⟩
      · exact ⟨a + q, by omega, zi_add a q⟩
  obtain ⟨a, ha, e⟩ := this (nF M) (Nat.le_refl _)
  exact ⟨a, by omega, e⟩
theorem ze_46 : ∀ (a1 : Int32) (s : yb_S), zInv s → ∃ (r : Int32) (s1 s2 : yb_S), (f_X11_count a1 s = some r ∧ s1 = s) ∧ (f_X12_count a1 s1 = some r ∧ s2 = s1) ∧ zInv s2 := by
  intro a1 s h
  have hW := h.1
  refine z_ask0 (A := f_X11_count a1) (B := f_X12_count a1) h (if a1 = 0 then (zP s).1 176 7 else if a1 = 1 then (zP s).1 176 6 else if a1 = 2 then (zP s).1 176 15 else if a1 = 3 then (zP s).1 176 27 else if a1 = 4 then (zP s).1 176 36 else if a1 = 5 then (zP s).1 176 54 else if a1 = 6 then (zP s).1 176 44 else if a1 = 7 then zHall (zP s) else if a1 = 8 then (zP s).1 176 8 else if a1 = 9 then (if zHall (zP s) ≤ (zP s).1 176 8 then 0 else zHall (zP s) - (zP s).1 176 8) else if a1 = 10 then (zP s).1 176 84 else if a1 = 11 then (zP s).1 176 85 else if a1 = 12 then (zP s).1 176 40 else -1) (fun m t hA => ?_) (fun o t hQ => ?_)
  · unfold f_X11_count
    rw [zo_headsIn hW hA, cq_D hA, cq_T hA, cq_H hA, cq_F hA, cq_R hA, cq_S hA, cq_X hA, cq_N hA, cq_B hA, cq_G hA, cq_K hA]
    simp only [Option.bind_some]
    have e9 : yb_max 0 (zHall (zP s) - (zP s).1 176 8) = if zHall (zP s) ≤ (zP s).1 176 8 then 0 else zHall (zP s) - (zP s).1 176 8 := by
      obtain ⟨a, ha, e⟩ := zHall_le hW
      obtain ⟨b, hb, e2⟩ := zw_8 hW
      exact zmax0 rfl (Int32.sub_add_cancel _ _).symm ⟨a, by omega, e⟩ ⟨b, by omega, e2⟩
    rw [e9]
    simp only [apply_ite some]
  · unfold f_X12_count
    rw [zm_hall hW hQ, zqk hQ (k := 7) (by omega), zqk hQ (k := 6) (by omega), zqk hQ (k := 15) (by omega), zqk hQ (k := 27) (by omega), zqk hQ (k := 36) (by omega), zqk hQ (k := 54) (by omega), zqk hQ (k := 44) (by omega), zqk hQ (k := 8) (by omega), zqk hQ (k := 84) (by omega), zqk hQ (k := 85) (by omega), zqk hQ (k := 40) (by omega)]
    simp only [Option.bind_some, apply_ite some]
theorem ze_44 : ∀ (a1 a2 : Int32) (s : yb_S), zInv s → ∃ (r : Int32) (s1 s2 : yb_S), (f_X11_told a1 a2 s = some r ∧ s1 = s) ∧ (f_X12_told a1 a2 s1 = some r ∧ s2 = s1) ∧ zInv s2 := by
  intro a1 a2 s h
  have hW := h.1
  have h8 := zw_F8 hW
  by_cases hf : zin a1 (nF (zP s))
  · obtain ⟨f, hf, rfl⟩ := hf
    refine z_ask0 (A := f_X11_told (zi f) a2) (B := f_X12_told (zi f) a2) h (if a2 = 0 then (zP s).1 195 f else if a2 = 1 then (zP s).1 196 f else if a2 = 2 then (zP s).1 197 f else if a2 = 3 then (zP s).1 189 f else if a2 = 4 then (zP s).1 198 f else if a2 = 5 then (zP s).1 199 f else -1) (fun m t hA => ?_) (fun o t hQ => ?_)
    · unfold f_X11_told
      rw [zo_hFt hW hA hf, Option.bind_some, if_neg (by decide)]
      simp (disch := omega) only [zi_rd, Option.bind_some, cq_28 hA, cq_29 hA, cq_31 hA, cq_22 hA, cq_32 hA, cq_33 hA]
      repeat' split
      all_goals rfl
    · unfold f_X12_told
      rw [zm_hFt hW hQ hf, Option.bind_some, if_neg (by decide)]
      simp (disch := omega) only [zi_rd, Option.bind_some, zq hQ]
      repeat' split
      all_goals rfl
  · refine z_ask0 (A := f_X11_told a1 a2) (B := f_X12_told a1 a2) h (-1) (fun m t hA => ?_) (fun o t hQ => ?_)
    · unfold f_X11_told
      rw [zo_hFf hW hA hf]
      rfl
    · unfold f_X12_told
      rw [zm_hFf hW hQ hf]
      rfl
