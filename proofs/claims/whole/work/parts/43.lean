/-! seek -/
def zM4 (M : yb_S) (g x b : Int32) : yb_S := yb_pI (yb_pI (yb_pI (yb_pI M 214 (nK M) g) 215 (nK M) x) 216 (nK M) b) 176 40 (zi (nK M + 1))
theorem zFinds_seek {M M' : yb_S} (m36 : nR M' = nR M) (m40 : nK M' = nK M + 1) (m : ∀ id k, 214 ≤ id → id < 217 → k < nK M → M'.1 id k = M.1 id k) (mr : ∀ id r, 207 ≤ id → id < 214 → M'.1 id r = M.1 id r) (f q : Nat) : zFinds M' f q = (zFinds M f q || zany (fun r => zHit M' f q r (nK M)) (nR M')) := by
  have e1 : zFinds M' f q = zany (fun r => zany (fun k => zHit M' f q r k) (nK M + 1)) (nR M') := by
    rw [zFinds_a, m40]
  have e2 : zany (fun r => zany (fun k => zHit M' f q r k) (nK M)) (nR M') = zFinds M f q := by
    rw [zFinds_a, m36]
    refine zany_congr fun r hr => zany_congr fun k hk => ?_
    refine zHit_c (m 214 k (by omega) (by omega) hk) ?_ ?_
    · unfold zPt
      rw [m 215 k (by omega) (by omega) hk, m 216 k (by omega) (by omega) hk, mr 208 r (by omega) (by omega), mr 209 r (by omega) (by omega)]
    · rw [zOf_a, zOf_a, m36]
      exact zany_congr fun z hz => by rw [mr 212 z (by omega) (by omega), mr 213 z (by omega) (by omega), mr 213 r (by omega) (by omega)]
  rw [e1, ← e2, ← zany_or]
  rfl
theorem zM4_c {M : yb_S} {g x b : Int32} : (∀ id k, 214 ≤ id → id < 217 → k < nK M → (zM4 M g x b).1 id k = M.1 id k) ∧ (∀ id r, 207 ≤ id → id < 214 → (zM4 M g x b).1 id r = M.1 id r) := by
  unfold zM4
  refine ⟨fun id k h1 h2 h3 => ?_, fun id r h1 h2 => ?_⟩
  · have hr : k ≠ nK M := by omega
    have key : ∀ (S : yb_S) (i : Nat) (z : Int32), (yb_pI S i (nK M) z).1 id k = S.1 id k := fun S i z => by
      rw [zu_rd]
      by_cases e : id = i
      · rw [if_pos e, if_neg hr]
      · rw [if_neg e]
    rw [zu_ne (by omega), key, key, key]
  · rw [zu_ne (by omega), zu_ne (by omega), zu_ne (by omega), zu_ne (by omega)]
theorem zo_noteS {M s : yb_S} {F : Nat → Nat → Bool} (hW : zW M) (hr : zRr s M) (hK : zKt F (nF M) s) {k : Nat} (hk : k < nK M) (h41 : s.1 41 8 - 1 = zi k) : zs_P (l_X7_addSeeking_54 yb_N (zi 0) s) (fun a => a.1 = 1 ∧ zfkk s a.2 ∧ zKt (fun f q => F f q || zany (fun r => zHit M f q r k) (nR M)) (nF M) a.2) := by
  have hR8 := zw_R8 hW
  unfold l_X7_addSeeking_54
  refine zs_up (fun r a => a.1 = zi r ∧ zfkk s a.2 ∧ zKt (fun f q => F f q || zany (fun r => zHit M f q r k) r) (nF M) a.2) (nR M) ?_ yb_N 0 _ (Nat.zero_le _) (by unfold yb_N; omega) ⟨rfl, zfkk_refl s, fun f hf => ?_⟩
  · rintro r ⟨x, u⟩ rc hr2 ⟨i1, i2, i3⟩ hn
    dsimp only at i1 i2 i3
    subst i1
    have hru := zRr_k i2 hr
    show zs_P (f_X7_addSeeking_54 (fun x4 s => rc (x4, s)) (zi r) u) _
    unfold f_X7_addSeeking_54
    rw [hru.1, zw_R hW, i2.1 41 (by decide) (by decide), h41]
    rcases Nat.lt_or_ge r (nR M) with hlt | hge
    · rw [if_neg (by rw [zi_le (by omega) (by omega)]; omega)]
      refine zs_bind (zo_note1 hW hru i3 hlt hk) fun v hv => ?_
      rw [zi_succ]
      refine hn hlt _ ⟨rfl, zfkk_trans i2 hv.1, fun f hf => ?_⟩
      have e : ∀ f q, (F f q || zany (fun r => zHit M f q r k) (r + 1)) = ((F f q || zany (fun r => zHit M f q r k) r) || zHit M f q r k) := fun f q => (Bool.or_assoc _ _ _).symm
      simp only [e]
      exact hv.2 f hf
    · have hkl := Nat.le_antisymm hr2 hge
      subst hkl
      rw [if_pos (Int32.le_refl _)]
      exact zs_ret ⟨rfl, i2, i3⟩
  · have := hK f hf
    simp only [zany, Bool.or_false]
    exact this
theorem zo_addS {M m s : yb_S} (hW : zW M) (hA : zA M m s) {x : Int32} {b g : Nat} (h40 : nK M < 40) (hb : b ≤ 120) (hg : g < nF M) : zs_P (f_X7_addSeeking (zi g) x (zi b) s) (fun a => a.1 = 1 ∧ zA (zM4 M (zi g) x (zi b)) m a.2) := by
  have hk := zk_seek (o := zO s) (M := M) (n := nK M) (b := b) (x := x) (g := g) rfl h40 hb hg hW hA.1
  have hM : yb_pI (yb_pI (yb_pI (yb_pI M 214 (nK M) (zi g)) 215 (nK M) x) 216 (nK M) (zi b)) 176 40 (zi (nK M + 1)) = zM4 M (zi g) x (zi b) := rfl
  rw [hM] at hk
  have e27 : nF (zM4 M (zi g) x (zi b)) = nF M := by
    unfold nF zM4
    simp (disch := omega) only [zu_ne, zu_id, ↓reduceIte, Nat.reduceEqDiff]
  have e36 : nR (zM4 M (zi g) x (zi b)) = nR M := by
    unfold nR zM4
    simp (disch := omega) only [zu_ne, zu_id, ↓reduceIte, Nat.reduceEqDiff]
  have e40 : nK (zM4 M (zi g) x (zi b)) = nK M + 1 := by
    show (((zM4 M (zi g) x (zi b)).1 176 40).toNatClampNeg) = _
    unfold zM4
    rw [zu_eq, zi_tn (by omega)]
  have hF := zFinds_seek e36 e40 (zM4_c (M := M) (g := zi g) (x := x) (b := zi b)).1 zM4_c.2
  unfold f_X7_addSeeking
  rw [cq_K hA, zw_K hW, show (40 : Int32) = zi 40 from rfl, if_pos (by rw [zi_lt (by omega) (by omega)]; exact h40)]
  simp (disch := omega) only [cq_K hA, zw_K hW, ↓zmd, zl, zi_div, zi_rem, zi_lt, zi_le, zi_inj, zi_add, zi_sub, zi_addm, zi_eqm, zi_meq, zi_mlt, zi_ltm, zi_lem, zi_mle, zi_tn, zi_rd, zi_wr, zi_rl, zi_wl, zi_ri, zu_ne, zu_nef, zu_eq, zu_id, zu_rl, zu_rdL, zu_neL, zu_idL, Option.bind_some, ↓reduceIte, Nat.reduceEqDiff, if_pos, if_neg]
  generalize hs9 : yb_pI (yb_pI (yb_pI (yb_pI s 49 (nK M) (zi g)) 50 (nK M) x) 51 (nK M) (zi b)) 41 8 (zi (nK M + 1)) = s9
  have hz : zO s9 = yb_pI (yb_pI (yb_pI (yb_pI (zO s) 49 (nK M) (zi g)) 50 (nK M) x) 51 (nK M) (zi b)) 41 8 (zi (nK M + 1)) := by
    rw [← hs9]
    simp (disch := omega) only [zP_e, zP_s, zP_k, zP_k0, zP_Ls, zP_Le, zO_e, zO_s, zO_92, zO_92s, zO_100, zO_100s, zO_Ls, zO_Le]
  have hm9 : zHm s9 = m := by
    rw [← hs9]
    simp (disch := omega) only [zHm_pI]
    exact hA.2
  rw [← hz] at hk
  have hK9 : zKt (zFinds M) (nF (zM4 M (zi g) x (zi b))) s9 := by
    rw [e27, ← hs9]
    intro f hf
    simp (disch := omega) only [zu_ne]
    exact zKt_of hA f hf
  have hr9 : zRr s9 (zM4 M (zi g) x (zi b)) := hk.2.2.2.2.2.2.1
  have hc41 : s9.1 41 8 - 1 = zi (nK M) := by
    rw [hr9.2.1, zw_K hk.1, e40]
    exact zi_gt
  refine zs_mono (zo_noteS hk.1 hr9 hK9 (k := nK M) (by rw [e40]; omega) hc41) fun a ha => ⟨ha.1, ?_, (zHm_k ha.2.1).trans hm9⟩
  refine zR_of (zR0_k ha.2.1 hk.2) (zKt_O ?_)
  intro f hf
  simp only [hF]
  exact ha.2.2 f hf
theorem ze_14 : ∀ (a1 a2 a3 : Int32) (s : yb_S), zInv s → ∃ (r : Int32) (s1 s2 : yb_S), f_X11_seek a1 a2 a3 s = some (r, s1) ∧ f_X12_seek a1 a2 a3 s1 = some (r, s2) ∧ zInv s2 := by
  intro a1 a2 a3 s h
  have hW := h.1
  have h8 := zw_F8 hW
  have hK8 := zw_K8 hW
  by_cases hc : (∃ g, g < nF (zP s) ∧ a1 = zi g) ∧ (0 ≤ a2 ∧ a2 ≤ 999999) ∧ (∃ b, b ≤ 120 ∧ a3 = zi b) ∧ nK (zP s) < 40
  · obtain ⟨⟨g, hg, rfl⟩, c2, ⟨b, hb, rfl⟩, h40⟩ := hc
    have hk := zk_seek (o := zO s) (M := zP s) (n := nK (zP s)) (b := b) (x := a2) (g := g) rfl h40 hb hg hW h.2.1
    refine z_call h 1 (zM4 (zP s) (zi g) a2 (zi b)) (fun m t hA => ?_) (fun o t hQ => ?_) hk.1 ?_
    · unfold f_X11_seek
      rw [zo_hFt hW hA hg, Option.bind_some, if_neg (by decide), zo_sought, if_pos ⟨c2.1, c2.2, zi_lo (by omega), by rw [show (120 : Int32) = zi 120 from rfl, zi_le (by omega) (by omega)]; exact hb⟩, Option.bind_some, if_neg (by decide)]
      exact zs_bind (zo_addS hW hA h40 hb hg) fun a ha => zs_ret ha
    · unfold f_X12_seek
      rw [zm_hFt hW hQ hg, Option.bind_some, if_neg (by decide), z_in (l := 0) (h := 999999) (lo := 0) (hi := 999999) (by decide) (by decide), if_pos c2, if_neg (by decide), z_inZ (l := 0) (h := 120) (a := 0) (b := 120) (by decide) (by decide) (by omega) (by decide) (by decide), if_pos (by omega), if_neg (by decide), zqk hQ (by omega), zw_K hW, show (40 : Int32) = zi 40 from rfl, if_neg (by rw [zi_inj (by omega) (by omega)]; omega)]
      simp (disch := omega) only [zqk hQ, zw_K hW, ↓zmd, zl, zi_div, zi_rem, zi_lt, zi_le, zi_inj, zi_add, zi_sub, zi_addm, zi_eqm, zi_meq, zi_mlt, zi_ltm, zi_lem, zi_mle, zi_tn, zi_rd, zi_wr, zi_rl, zi_wl, zi_ri, zu_ne, zu_nef, zu_eq, zu_id, zu_rl, zu_rdL, zu_neL, zu_idL, Option.bind_some, ↓reduceIte, Nat.reduceEqDiff, if_pos, if_neg]
      refine zs_ret ⟨rfl, zQ_st ?_ ?_ rfl⟩
      · simp (disch := omega) only [zP_e, zP_s, zP_k, zP_k0, zP_Ls, zP_Le, zO_e, zO_s, zO_92, zO_92s, zO_100, zO_100s, zO_Ls, zO_Le]
        rw [hQ.1]
        rfl
      · simp (disch := omega) only [zHo_pI]
        exact hQ.2.1
    · show (zM4 (zP s) (zi g) a2 (zi b)).1 176 58 = -1
      unfold zM4
      simp (disch := omega) only [zu_ne, zu_id, ↓reduceIte, Nat.reduceEqDiff]
      exact z_b58 h
  · refine z_ask h 0 (fun m t hA => ?_) (fun o t hQ => ?_)
    · unfold f_X11_seek
      by_cases hf : zin a1 (nF (zP s))
      · obtain ⟨g, hg, rfl⟩ := hf
        rw [zo_hFt hW hA hg, Option.bind_some, if_neg (by decide), zo_sought]
        by_cases c2 : 0 ≤ a2 ∧ a2 ≤ 999999 ∧ 0 ≤ a3 ∧ a3 ≤ 120
        · rw [if_pos c2, Option.bind_some, if_neg (by decide)]
          have h40 : ¬ nK (zP s) < 40 := fun q => hc ⟨⟨g, hg, rfl⟩, ⟨c2.1, c2.2.1⟩, zi_in c2.2.2.1 (n := 120) c2.2.2.2 (by omega), q⟩
          unfold f_X7_addSeeking
          rw [cq_K hA, zw_K hW, show (40 : Int32) = zi 40 from rfl, if_neg (by rw [zi_lt (by omega) (by omega)]; exact h40)]
          exact zs_ret ⟨rfl, hA⟩
        · rw [if_neg c2]
          exact zs_ret ⟨rfl, hA⟩
      · rw [zo_hFf hW hA hf]
        exact zs_ret ⟨rfl, hA⟩
    · unfold f_X12_seek
      by_cases hf : zin a1 (nF (zP s))
      · obtain ⟨g, hg, rfl⟩ := hf
        rw [zm_hFt hW hQ hg, Option.bind_some, if_neg (by decide), z_in (l := 0) (h := 999999) (lo := 0) (hi := 999999) (by decide) (by decide)]
        by_cases c2 : 0 ≤ a2 ∧ a2 ≤ 999999
        · rw [if_pos c2, if_neg (by decide), z_in (l := 0) (h := 120) (lo := 0) (hi := 120) (by decide) (by decide)]
          by_cases c3 : 0 ≤ a3 ∧ a3 ≤ 120
          · have h40 : ¬ nK (zP s) < 40 := fun q => hc ⟨⟨g, hg, rfl⟩, c2, zi_in c3.1 (n := 120) c3.2 (by omega), q⟩
            rw [if_pos c3, if_neg (by decide), zqk hQ (by omega), zw_K hW, show (40 : Int32) = zi 40 from rfl, if_pos (by rw [zi_inj (by omega) (by omega)]; omega)]
            exact zs_ret ⟨rfl, hQ⟩
          · rw [if_neg c3]
            exact zs_ret ⟨rfl, hQ⟩
        · rw [if_neg c2]
          exact zs_ret ⟨rfl, hQ⟩
      · rw [zm_hFf hW hQ hf]
        exact zs_ret ⟨rfl, hQ⟩
