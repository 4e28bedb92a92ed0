/-! beside itself -/
theorem zRs_M {M P : yb_S} {x : Int32} {q : Nat → Nat} {c : Nat} (hW : zW M) (h58 : M.1 176 58 = -1) (hW8 : zW (yb_pI M 176 58 x)) (hinj : ∀ j k, j < c → k < c → q j = q k → j = k) (hlt : ∀ j, j < c → q j < nF (yb_pI M 176 58 x) ∧ (yb_pI M 176 58 x).1 195 (q j) = 0) (hP : P = (zPl false q (yb_pI M 176 58 x) c).1) : zW (yb_pI P 176 58 (-1)) ∧ nF (yb_pI P 176 58 (-1)) = nF M ∧ zRs M (yb_pI P 176 58 (-1)) (nF M) = M := by
  have p := zPl_ok (kept := false) hW8 hinj hlt c (Nat.le_refl _)
  have hW9 : zW (yb_pI P 176 58 (-1)) := by
    rw [hP]
    exact zk_58W (Or.inl rfl) p.1
  have n8 : nF (yb_pI M 176 58 x) = nF M := by
    unfold nF
    rw [zu_id, if_neg (by decide)]
  have e1 : ∀ id k, id ≠ 195 → id ≠ 196 → (yb_pI P 176 58 (-1)).1 id k = M.1 id k := fun id k h1 h2 => by
    rw [zu_rd, hP, p.2.2.2.1 rfl id h1 h2, zu_rd]
    by_cases e : id = 176
    · rw [if_pos e, if_pos e]
      by_cases e2 : k = 58
      · rw [if_pos e2, e, e2, h58]
      · rw [if_neg e2, if_neg e2]
    · rw [if_neg e, if_neg e]
  have nP : nF (yb_pI P 176 58 (-1)) = nF M := by
    unfold nF
    rw [e1 176 27 (by decide) (by decide)]
  refine ⟨hW9, nP, ?_⟩
  obtain ⟨t1, t2, t3, t4, t5⟩ := zRs_ok (M := M) hW9 nP (nF M) (Nat.le_refl _)
  apply Prod.ext
  · funext id k
    by_cases e : id = 195 ∨ id = 196
    · by_cases ek : k < nF M ∧ M.1 195 k = 0
      · have hm1 : M.1 196 k = -1 := by
          rcases (zw_f hW ek.1).2.2.2.1 with ⟨y, -⟩ | ⟨-, y⟩
          · rw [ek.2] at y
            exact absurd y (by decide)
          · exact y
        rcases e with e | e
        · rw [e, (t5 k ek.1 ek.2).1, ek.2]
        · rw [e, (t5 k ek.1 ek.2).2, hm1]
      · have h4 := t4 k (by
          rcases Nat.lt_or_ge k (nF M) with h | h
          · exact Or.inr fun e0 => ek ⟨h, e0⟩
          · exact Or.inl h)
        have hne : ∀ j, j < c → q j ≠ k := fun j hj e2 => by
          have := hlt j hj
          rw [n8, zu_ne (by decide), e2] at this
          exact ek this
        have h3 := p.2.2.1 k hne
        rw [zu_ne (by decide), zu_ne (by decide)] at h3
        rcases e with e | e
        · rw [e, h4.1, zu_ne (by decide), hP, h3.1]
        · rw [e, h4.2, zu_ne (by decide), hP, h3.2]
    · rw [t2 id (by omega) (by omega)]
      exact e1 id k (by omega) (by omega)
  · rw [t3]
    show P.2 = M.2
    rw [hP]
    exact p.2.2.2.2.1
theorem ze_41 : ∀ (a1 : Int32) (nx : Nat) (s : yb_S), 603 ≤ nx → zInv s → ∃ (r : Int32) (s1 s2 : yb_S), f_X11_beside a1 s = some (r, s1) ∧ f_X12_beside a1 nx s1 = some (r, s2) ∧ zInv s2 := by
  intro a1 nx s hnx h
  have hW := h.1
  have h8 := zw_F8 hW
  have h10 := zw_S8 hW
  by_cases hs : zin a1 (nS (zP s))
  · obtain ⟨x, hx, rfl⟩ := hs
    have h58 := z_b58 h
    have hx2 : zi x = -1 ∨ ∃ j, j < nS (zP s) ∧ zi x = zi j := Or.inr ⟨x, hx, rfl⟩
    have hW8 := zk_58W hx2 hW
    have n8 : nF (yb_pI (zP s) 176 58 (zi x)) = nF (zP s) := by
      unfold nF
      rw [zu_id, if_neg (by decide)]
    obtain ⟨hcN, hinj, hlt, -⟩ := zLine_ok (M := yb_pI (zP s) 176 58 (zi x)) (nF (yb_pI (zP s) 176 58 (zi x)))
    have p := zPl_ok (kept := false) hW8 hinj hlt _ (Nat.le_refl _)
    have hTM := zTk_M hW8 hinj hlt
    obtain ⟨k1, k2, k3⟩ := zRs_M hW h58 hW8 hinj hlt rfl
    obtain ⟨m1, -, -⟩ := zN_fr (p.2.2.2.1 rfl 176 (by decide) (by decide))
    have hT := zTk_ok p.1 hinj (fun j hj => by rw [m1]; exact (hlt j hj).1) p.2.2.2.2.2.2.2 _ (Nat.le_refl _)
    refine z_call h ((zTk (zLine (yb_pI (zP s) 176 58 (zi x)) (nF (yb_pI (zP s) 176 58 (zi x)))).2 (zPl false (zLine (yb_pI (zP s) 176 58 (zi x)) (nF (yb_pI (zP s) 176 58 (zi x)))).2 (yb_pI (zP s) 176 58 (zi x)) (zLine (yb_pI (zP s) 176 58 (zi x)) (nF (yb_pI (zP s) 176 58 (zi x)))).1).1 (zLine (yb_pI (zP s) 176 58 (zi x)) (nF (yb_pI (zP s) 176 58 (zi x)))).1).2) (zP s) (fun m t hA => ?_) (fun o t hQ => ?_) hW h58
    · unfold f_X11_beside
      rw [zo_hSt hW hA hx, Option.bind_some, if_neg (by decide), Option.bind_some]
      refine zs_bind (zo_lineUp hW8 (zk_58A hx2 hW hA)) fun v hv => ?_
      refine zs_bind (zo_placeAll (kept := false) hW8 hv.1 (by omega) hinj hlt (fun e => by cases e) hv.2.1 hv.2.2.1) fun a ha => ?_
      refine zs_bind (zo_takeBack p.1 ha.2.1 (by omega) hinj (fun j hj => by rw [m1]; exact (hlt j hj).1) p.2.2.2.2.2.2.2 (fun j hj => by rw [ha.2.2.2]; exact hv.2.1 j hj) (by rw [ha.2.2.1]; exact hv.2.2.1)) fun b hb => ?_
      have hb2 := hb.2
      rw [hTM] at hb2
      have hz := zk_58A (x := -1) (Or.inl rfl) hW8 hb2
      rw [zu_bk h58] at hz
      exact zs_ret ⟨hb.1, hz⟩
    · unfold f_X12_beside
      rw [zqk hQ (by omega), zw_S hW, z_inC1 (by omega) hx, Option.bind_some, if_neg (by decide), Option.bind_some]
      have hz0 : zQ (zP s) o (yb_zI t nx) := zQ_hi hQ (fun id hid => funext fun k => by
        show (if id = nx then (fun _ => (0 : Int32)) else t.1 id) k = _
        rw [if_neg (by omega)]) rfl
      unfold l_X12_beside_25
      refine zs_up (fun k a => a.1 = zi k ∧ zQ (zP s) o a.2 ∧ ∀ g, g < k → a.2.1 nx g = (zP s).1 195 g) (nF (zP s)) ?_ yb_N 0 _ (Nat.zero_le _) (by unfold yb_N; omega) (by exact ⟨rfl, hz0, fun g hg => absurd hg (Nat.not_lt_zero _)⟩)
      rintro k ⟨y, u⟩ rc hk ⟨i1, i2, i3⟩ hn
      dsimp only at i1 i2 i3
      subst i1
      show zs_P (f_X12_beside_25 (fun x1 s => rc (x1, s)) (zi x) nx (zi k) u) _
      unfold f_X12_beside_25
      rw [zqk i2 (by omega), zw_F hW]
      rcases Nat.lt_or_ge k (nF (zP s)) with hlt2 | hge
      · rw [if_neg (by rw [zi_le (by omega) (by omega)]; omega), zi_rd (by omega) (by omega), Option.bind_some, zq i2 (by omega), zi_wr (by omega) (by omega), Option.bind_some, zi_succ]
        refine hn hlt2 _ ⟨rfl, zQ_w i2 (by omega), fun g hg => ?_⟩
        dsimp only
        rw [zu_id]
        by_cases e : g = k
        · rw [if_pos e, e]
        · rw [if_neg e]
          exact i3 g (by omega)
      · have hkl := Nat.le_antisymm hk hge
        subst hkl
        rw [if_pos (Int32.le_refl _), Option.bind_some]
        have hQ8 : zQ (yb_pI (zP s) 176 58 (zi x)) o (yb_pI u 176 58 (zi x)) := zQ_ek i2 (by omega)
        rw [zm_hall hW8 hQ8, Option.bind_some]
        refine zs_bind (zm_places hW8 hQ8 false) fun a ha => ?_
        rw [zm_hall p.1 ha.2.1, Option.bind_some, Option.bind_some, ha.1]
        have hQ9 := zQ_ek (k := 58) (x := -1) ha.2.1 (by omega)
        unfold l_X12_beside_81
        refine zs_up (fun f b => b.1 = zi f ∧ zQ (zRs (zP s) (yb_pI (zPl false (zLine (yb_pI (zP s) 176 58 (zi x)) (nF (yb_pI (zP s) 176 58 (zi x)))).2 (yb_pI (zP s) 176 58 (zi x)) (zLine (yb_pI (zP s) 176 58 (zi x)) (nF (yb_pI (zP s) 176 58 (zi x)))).1).1 176 58 (-1)) f) o b.2 ∧ ∀ g, g < nF (zP s) → b.2.1 nx g = (zP s).1 195 g) (nF (zP s)) ?_ yb_N 0 _ (Nat.zero_le _) (by unfold yb_N; omega) (by
          refine ⟨rfl, hQ9, fun g hg => ?_⟩
          dsimp only
          rw [zu_ne (by omega), ha.2.2 nx hnx, zu_ne (by omega)]
          exact i3 g hg)
        rintro f ⟨y, w⟩ rd hf ⟨j1, j2, j3⟩ hm
        dsimp only at j1 j2 j3
        subst j1
        show zs_P (f_X12_beside_81 (fun x6 s => rd (x6, s)) nx _ _ (zi f) w) _
        unfold f_X12_beside_81 j_X12_beside_104
        obtain ⟨r1, r2, r3, r4, r5⟩ := zRs_ok (M := zP s) k1 k2 f hf
        obtain ⟨l1, -, -⟩ := zN_fr (r2 176 (by decide) (by decide))
        rw [zqk j2 (by omega), zw_F r1, l1, k2]
        rcases Nat.lt_or_ge f (nF (zP s)) with hflt | hfge
        · rw [if_neg (by rw [zi_le (by omega) (by omega)]; omega), zi_rd (by omega) (by omega), Option.bind_some, j3 f hflt]
          have es := zRs_s (M := zP s) (P := yb_pI (zPl false (zLine (yb_pI (zP s) 176 58 (zi x)) (nF (yb_pI (zP s) 176 58 (zi x)))).2 (yb_pI (zP s) 176 58 (zi x)) (zLine (yb_pI (zP s) 176 58 (zi x)) (nF (yb_pI (zP s) 176 58 (zi x)))).1).1 176 58 (-1)) (k := f)
          by_cases c1 : (zP s).1 195 f = 0
          · rw [if_pos c1] at es ⊢
            refine zs_bind (zs_fr (zm_houseN r1 j2 (by rw [l1, k2]; exact hflt)) (Q := fun v => v.1 nx = w.1 nx) (fun v e => zfr_houses e (by omega) (by omega))) fun v hv => ?_
            rw [zi_succ]
            refine hm hflt _ ⟨rfl, by rw [es]; exact hv.1, fun g hg => ?_⟩
            dsimp only
            rw [hv.2]
            exact j3 g hg
          · rw [if_neg c1] at es ⊢
            rw [zi_succ]
            exact hm hflt _ ⟨rfl, by rw [es]; exact j2, j3⟩
        · have hkl := Nat.le_antisymm hf hfge
          subst hkl
          rw [if_pos (Int32.le_refl _)]
          rw [k3] at j2
          have hsum := hT.2.2.2.2.2
          rw [hTM] at hsum
          by_cases c0 : zi (zPl false (zLine (yb_pI (zP s) 176 58 (zi x)) (nF (yb_pI (zP s) 176 58 (zi x)))).2 (yb_pI (zP s) 176 58 (zi x)) (zLine (yb_pI (zP s) 176 58 (zi x)) (nF (yb_pI (zP s) 176 58 (zi x)))).1).2 = 0
          · rw [if_pos c0]
            refine zs_ret ⟨?_, j2⟩
            have := p.2.2.2.2.2.1
            rw [show (0 : Int32) = zi 0 from rfl, zi_inj (by omega) (by omega)] at c0
            rw [p.2.2.2.2.2.2.1 c0] at hsum
            rw [p.2.2.2.2.2.2.1 c0]
            dsimp only
            grind
          · rw [if_neg c0]
            refine zs_ret ⟨?_, j2⟩
            dsimp only
            grind
  · refine z_ask h (-1) (fun m t hA => ?_) (fun o t hQ => ?_)
    · unfold f_X11_beside
      rw [zo_hSf hW hA hs]
      exact zs_ret ⟨rfl, hA⟩
    · unfold f_X12_beside
      rw [zqk hQ (by omega), zw_S hW, z_inC0 (by omega) hs]
      exact zs_ret ⟨rfl, hQ⟩
