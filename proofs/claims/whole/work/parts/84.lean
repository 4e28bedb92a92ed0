/-! best: the class's search is the pruned one -/
section
variable {M m : yb_S} {F H : Nat → Nat} {n nh : Nat}
theorem zyLh_b (hW : zW M) (hF : zyFH M F H n nh) : ∀ (r i : Nat), i + r ≤ n → zyLh M F r i ≤ 10 * r ∧ zyLp M F r i ≤ 6 * r ∧ zyLw M F r i ≤ r
  | 0, _, _ => ⟨Nat.le_refl _, Nat.le_refl _, Nat.le_refl _⟩
  | r + 1, i, h => by
    obtain ⟨h1, h2, h3⟩ := zyLh_b hW hF r (i + 1) (by omega)
    have e1 : zyLh M F (r + 1) i = zyLh M F r (i + 1) + zyh M F i := rfl
    have e2 : zyLp M F (r + 1) i = zyLp M F r (i + 1) + zyP M F i := rfl
    have e3 : zyLw M F (r + 1) i = zyLw M F r (i + 1) + zyW M F i := rfl
    obtain ⟨q, hq, eq⟩ := (zw_f hW (hF.2.2.1 i (by omega))).1
    have b1 : zyh M F i ≤ 10 := by
      unfold zyh
      rw [eq, zi_tn (by omega)]
      omega
    have b2 : zyP M F i ≤ 6 := by
      have := zns_b (g := fun j => cond (zKin M (F i) (F j)) 1 0) (B := 1) (n := i) fun k _ => by
        cases zKin M (F i) (F k)
        · exact Nat.zero_le _
        · exact Nat.le_refl _
      have hn := hF.1
      unfold zyP
      omega
    have b3 : zyW M F i ≤ 1 := by
      unfold zyW
      cases (M.1 199 (F i) == -1)
      · exact Nat.le_refl _
      · exact Nat.zero_le _
    omega
theorem zyp_b (hF : zyFH M F H n nh) {l : Nat → Int32} {i h : Nat} (hi : i < n) : zyp M F l i h ≤ 6 := by
  have := zns_b (g := fun j => cond (zyk M F l i h j) 1 0) (B := 1) (n := i) fun k _ => by
    cases zyk M F l i h k
    · exact Nat.zero_le _
    · exact Nat.le_refl _
  have hn := hF.1
  unfold zyp
  omega
theorem zyw_b {i h : Nat} : zyw M F i h ≤ 1 := by
  unfold zyw
  cases (M.1 199 (F i) == M.1 183 h)
  · exact Nat.zero_le _
  · exact Nat.le_refl _
def zyRt (M m : yb_S) (F H : Nat → Nat) (n nh i : Nat) (P : yb_S) (l : Nat → Int32) (B : zyB) (v : yb_S) : Prop := zA P m v ∧ zySt M F H n nh v ∧ (∀ k, k < i → v.1 133 k = l k) ∧ zyBc n B v
theorem zo_try (hW : zW M) (hF : zyFH M F H n nh) : ∀ (r i : Nat), i + r = n → ∀ (f : Nat), 2 * r + 1 ≤ f → ∀ (P : yb_S) (l : Nat → Int32) (x y z : Nat) (B : zyB) (u : yb_S), zyPa M F n i P l → x ≤ 10 * i → y ≤ 6 * i → z ≤ i → zyRt M m F H n nh i P l B u → zs_P ((gg_X1_tryFrom f).1 (zi i) (zi x) (zi y) (zi z) u) (fun v => zyRt M m F H n nh i P l (zypr M F H nh r i P l x y z B) v) := by
  intro r
  induction r with
  | zero =>
    intro i hin f hf P l x y z B u hp hx hy hz hu
    obtain ⟨f, rfl⟩ : ∃ g, f = g + 1 := ⟨f - 1, by omega⟩
    have hn6 := hF.1
    have hin : i = n := hin
    subst hin
    obtain ⟨u1, u2, u3, u4⟩ := hu
    have e := u2.2.2.2.2.2.1 i (Nat.le_refl _)
    rw [Nat.sub_self] at e
    obtain ⟨e1, e2, e3⟩ := e
    show zs_P (f_X1_tryFrom (gg_X1_tryFrom f).1 (gg_X1_tryFrom f).2 (zi i) (zi x) (zi y) (zi z) u) _
    unfold f_X1_tryFrom
    rw [zi_rd (by omega) (by omega), Option.bind_some, zi_rd (by omega) (by omega), Option.bind_some, zi_rd (by omega) (by omega), Option.bind_some, e1, e2, e3, show zyLh M F 0 i = 0 from rfl, show zyLp M F 0 i = 0 from rfl, show zyLw M F 0 i = 0 from rfl, zi_add, zi_add, zi_add, Nat.add_zero, Nat.add_zero, Nat.add_zero, zo_better u4 (by omega) (by omega) (by omega), Option.bind_some]
    have ez : zypr M F H nh 0 i P l x y z B = cond (zyb x y z B) (some (x, y, z, l)) B := rfl
    rw [ez]
    cases hb : zyb x y z B
    · rw [if_pos (show zb false = 0 from rfl)]
      exact zs_ret ⟨u1, u2, u3, u4⟩
    · rw [if_neg (show ¬ zb true = 0 by decide), u2.1, if_neg (by rw [zi_lt (by omega) (by omega)]; omega)]
      refine zs_bind (zo_keepWay hn6 u1 u2 u3 (by omega) (by omega) (by omega)) fun v hv => zs_ret ⟨hv.1, hv.2.1, fun k hk => ?_, hv.2.2.2⟩
      rw [hv.2.2.1 k]
      exact u3 k hk
  | succ r ih =>
    intro i hin f hf P l x y z B u hp hx hy hz hu
    obtain ⟨f, rfl⟩ : ∃ g, f = (g + 1) + 1 := ⟨f - 2, by omega⟩
    have hn6 := hF.1
    have hh6 := hF.2.1
    have h8 := zw_F8 hW
    have h24 := zw_H8 hW
    have h10 := zw_T8 hW
    have hi : i < n := by omega
    have hfi := hF.2.2.1 i hi
    obtain ⟨n1, n2, n3⟩ := zyPa_N hp
    have bL := zyLh_b hW hF (r + 1) i (by omega)
    obtain ⟨u1, u2, u3, u4⟩ := hu
    have e := u2.2.2.2.2.2.1 i (by omega)
    rw [show n - i = r + 1 by omega] at e
    obtain ⟨e1, e2, e3⟩ := e
    show zs_P (f_X1_tryFrom (gg_X1_tryFrom (f + 1)).1 (gg_X1_tryFrom (f + 1)).2 (zi i) (zi x) (zi y) (zi z) u) _
    unfold f_X1_tryFrom
    rw [zi_rd (by omega) (by omega), Option.bind_some, zi_rd (by omega) (by omega), Option.bind_some, zi_rd (by omega) (by omega), Option.bind_some, e1, e2, e3, zi_add, zi_add, zi_add, zo_better u4 (by omega) (by omega) (by omega), Option.bind_some]
    have ez : zypr M F H nh (r + 1) i P l x y z B = cond (zyb (x + zyLh M F (r + 1) i) (y + zyLp M F (r + 1) i) (z + zyLw M F (r + 1) i) B) (zypr M F H nh r (i + 1) P (zyu l i (-1)) x y z (zyfd (fun j C => if zBar P (F i) (H j) = 0 then zypr M F H nh r (i + 1) (zHs P (F i) (H j)) (zyu l i (zi (H j))) (x + zyh M F i) (y + zyp M F l i (H j)) (z + zyw M F i (H j)) C else C) nh B)) B := rfl
    rw [ez]
    cases hb : zyb (x + zyLh M F (r + 1) i) (y + zyLp M F (r + 1) i) (z + zyLw M F (r + 1) i) B
    · rw [if_pos (show zb false = 0 from rfl)]
      exact zs_ret ⟨u1, u2, u3, u4⟩
    · rw [if_neg (show ¬ zb true = 0 by decide), u2.1, if_pos (by rw [zi_lt (by omega) (by omega)]; exact hi), cond_true]
      generalize hg : (fun j C => if zBar P (F i) (H j) = 0 then zypr M F H nh r (i + 1) (zHs P (F i) (H j)) (zyu l i (zi (H j))) (x + zyh M F i) (y + zyp M F l i (H j)) (z + zyw M F i (H j)) C else C) = g
      unfold l_X1_tryFrom_53
      refine zs_up (fun j a => a.1 = zi j ∧ zyRt M m F H n nh i P l (zyfd g j B) a.2) nh ?_ yb_N 0 _ (Nat.zero_le _) (by unfold yb_N; omega) (by exact ⟨rfl, u1, u2, u3, u4⟩)
      rintro j ⟨a, v⟩ rc hj ⟨i1, v1, v2, v3, v4⟩ hnx
      dsimp only at i1 v1 v2 v3 v4
      subst i1
      show zs_P (f_X1_tryFrom_53 (gg_X1_tryFrom (f + 1)).1 (gg_X1_tryFrom (f + 1)).2 (fun x5 s => rc (x5, s)) (zi i) (zi x) (zi y) (zi z) (zi j) v) _
      unfold f_X1_tryFrom_53 j_X1_tryFrom_101
      rw [v2.2.2.1]
      rcases Nat.lt_or_ge j nh with hlt | hge
      · have hHj := hF.2.2.2.2 j hlt
        rw [if_neg (by rw [zi_le (by omega) (by omega)]; omega), zi_rd (by omega) (by omega), Option.bind_some, zi_rd (by omega) (by omega), Option.bind_some, v2.2.2.2.1 i hi, v2.2.2.2.2.1 j hlt]
        refine zs_bind (zo_barOf hp.1 v1 (by rw [n1]; exact hfi) (by rw [n2]; exact hHj)) fun w hw => ?_
        have fr : zyfr v w.2 := fun id a b => hw.2.1 id (by omega) (by omega)
        have w1 := zfo_A hw.2 v1
        have w2 := zyfr_S fr v2
        have w4 := zyfr_B fr v4
        have w3 : ∀ k, k < i → w.2.1 133 k = l k := fun k hk => by
          rw [fr 133 (by omega) (by omega)]
          exact v3 k hk
        rw [hw.1]
        by_cases hbar : zBar P (F i) (H j) = 0
        · rw [if_pos hbar, zi_rd (by omega) (by omega), Option.bind_some, w2.2.2.2.2.1 j hlt]
          have eg : zyfd g (j + 1) B = zypr M F H nh r (i + 1) (zHs P (F i) (H j)) (zyu l i (zi (H j))) (x + zyh M F i) (y + zyp M F l i (H j)) (z + zyw M F i (H j)) (zyfd g j B) := by
            rw [zyfd_s, ← hg]
            dsimp only
            rw [if_pos hbar]
          have hpath := zyPa_h hF hi hHj hp hbar
          have hfr := zyFr hF hi hp hbar
          obtain ⟨⟨t, ht, et⟩, -⟩ := zw_h hW hHj
          have b1 := zyp_b hF (l := l) (h := H j) hi
          have b2 := zyw_b (M := M) (F := F) (i := i) (h := H j)
          obtain ⟨qh, hqh, eqh⟩ := (zw_f hW hfi).1
          have eh : M.1 189 (F i) = zi (zyh M F i) ∧ zyh M F i ≤ 10 := by
            unfold zyh
            rw [eqh, zi_tn (by omega)]
            exact ⟨rfl, by omega⟩
          refine zs_bind (R := fun q => zyRt M m F H n nh i P l (zyfd g (j + 1) B) q) ?_ fun q hq => ?_
          · show zs_P (f_X1_tryHome (gg_X1_tryFrom f).1 (gg_X1_tryFrom f).2 (zi i) (zi (H j)) (zi x) (zi y) (zi z) w.2) _
            unfold f_X1_tryHome
            rw [zi_rd (by omega) (by omega), Option.bind_some, w2.2.2.2.1 i hi, zi_rd (by omega) (by omega), Option.bind_some, cq_14 w1 (by rw [n2]; exact hHj), hp.2.1 183 (by decide) (by decide), et, zi_rd (by omega) (by omega), Option.bind_some, zi_rd (by omega) (by omega), Option.bind_some, w2.2.1, zo_pairs hF hp w1 hi et (by omega), Option.bind_some, zi_wr (by omega) (by omega), Option.bind_some]
            have wA := zA_w w1 (id := 133) (k := i) (x := zi (H j)) (by omega)
            have wS : zySt M F H n nh (yb_pI w.2 133 i (zi (H j))) := by
              unfold zySt at w2 ⊢
              simp (disch := omega) only [zu_ne]
              exact w2
            have wB : zyBc n (zyfd g j B) (yb_pI w.2 133 i (zi (H j))) := by
              unfold zyBc at w4 ⊢
              simp (disch := omega) only [zu_ne]
              exact w4
            have wL : ∀ k, k < i + 1 → (yb_pI w.2 133 i (zi (H j))).1 133 k = zyu l i (zi (H j)) k := fun k hk => by
              unfold zyu
              by_cases ek : k = i
              · rw [ek, zu_eq, if_pos rfl]
              · rw [zu_col ek, if_neg ek]
                exact w3 k (by omega)
            generalize yb_pI w.2 133 i (zi (H j)) = w5 at *
            refine zs_bind (zs_fr (zo_settle hp.1 wA (by rw [n1]; exact hfi) (by rw [n2]; exact hHj) (hp.2.2.2 i (Nat.le_refl _) hi).1 hfr) (Q := fun v => zyfr w5 v) (fun v e id a b => zfr_settle e (by omega))) fun w6 hw6 => ?_
            have c6 := zyPa_N hpath
            rw [zi_rd (by omega) (by omega), Option.bind_some, cq_22 hw6.1 (by rw [c6.1]; exact hfi), hpath.2.1 189 (by decide) (by decide), eh.1, zo_wishMet hpath.1 hw6.1 (by rw [c6.1]; exact hfi), Option.bind_some, hpath.2.1 199 (by decide) (by decide)]
            have ew : zb (M.1 199 (F i) == zi t) = zi (zyw M F i (H j)) := by
              unfold zyw
              rw [et]
              cases (M.1 199 (F i) == zi t) <;> rfl
            rw [ew, zi_succ, zi_add, zi_add, zi_add]
            refine zs_bind (ih (i + 1) (by omega) f (by omega) _ _ _ _ _ _ w6 hpath (by omega) (by omega) (by omega) ⟨hw6.1, zyfr_S hw6.2 wS, fun k hk => ?_, zyfr_B hw6.2 wB⟩) fun w7 hw7 => ?_
            · rw [hw6.2 133 (by omega) (by omega)]
              exact wL k hk
            · obtain ⟨r1, r2, r3, r4⟩ := hw7
              refine zs_bind (zs_fr (zo_unsettle1 hpath.1 r1 (by rw [c6.1]; exact hfi) zHs_1.1) (Q := fun v => zyfr w7 v) (fun v e id a b => zfr_unsettle e (by omega))) fun w8 hw8 => zs_ret ?_
              rw [zUn_Hs (hp.2.2.2 i (Nat.le_refl _) hi).1 (hp.2.2.2 i (Nat.le_refl _) hi).2] at hw8
              refine ⟨hw8.1, zyfr_S hw8.2 r2, fun k hk => ?_, ?_⟩
              · rw [hw8.2 133 (by omega) (by omega), r3 k (by omega)]
                exact if_neg (by omega)
              · rw [eg]
                exact zyfr_B hw8.2 r4
          · rw [zi_succ]
            exact hnx hlt _ ⟨rfl, hq⟩
        · rw [if_neg hbar, zi_succ]
          have eg : zyfd g (j + 1) B = zyfd g j B := by
            rw [zyfd_s, ← hg]
            dsimp only
            rw [if_neg hbar]
          exact hnx hlt _ ⟨rfl, w1, w2, w3, by rw [eg]; exact w4⟩
      · have hkl := Nat.le_antisymm hj hge
        subst hkl
        rw [if_pos (Int32.le_refl _), zi_wr (by omega) (by omega), Option.bind_some, zi_succ]
        have wA := zA_w v1 (id := 133) (k := i) (x := -1) (by omega)
        have wS : zySt M F H n j (yb_pI v 133 i (-1)) := by
          unfold zySt at v2 ⊢
          simp (disch := omega) only [zu_ne]
          exact v2
        have wB : zyBc n (zyfd g j B) (yb_pI v 133 i (-1)) := by
          unfold zyBc at v4 ⊢
          simp (disch := omega) only [zu_ne]
          exact v4
        refine zs_bind (ih (i + 1) (by omega) (f + 1) (by omega) P (zyu l i (-1)) x y z _ (yb_pI v 133 i (-1)) (zyPa_n hi hp) (by omega) (by omega) (by omega) ⟨wA, wS, fun k hk => ?_, wB⟩) fun w7 hw7 => zs_ret ⟨hw7.1, hw7.2.1, fun k hk => ?_, hw7.2.2.2⟩
        · unfold zyu
          by_cases ek : k = i
          · rw [ek, zu_eq, if_pos rfl]
          · rw [zu_col ek, if_neg ek]
            exact v3 k (by omega)
        · rw [hw7.2.2.1 k (by omega)]
          exact if_neg (by omega)
end
