/-! best: the reference's tries are all ways -/
section
variable {M o w : yb_S} {F H : Nat → Nat} {n nh : Nat}
def zyQt (o w : yb_S) (n i : Nat) (P : yb_S) (l : Nat → Int32) (B : zyB) (v : yb_S) : Prop := zQ P o v ∧ zyqs w v ∧ (∀ k, k < i → v.1 596 k = l k) ∧ zyQB n B v
theorem zyqf_h {u v : yb_S} (h : ∀ id, id ≠ 195 → id ≠ 196 → v.1 id = u.1 id) : zyqf u v := ⟨fun id a b => h id (by omega) (by omega), fun k _ _ => by rw [h 176 (by decide) (by decide)]⟩
theorem zyqf_w {u : yb_S} {k : Nat} {x : Int32} {B : zyB} (h : zyqs w u) (hB : zyQB n B u) : zyqs w (yb_pI u 596 k x) ∧ zyQB n B (yb_pI u 596 k x) := by
  constructor
  · refine ⟨fun id a b => ?_, ?_, ?_⟩
    · rw [zu_nef (by omega)]
      exact h.1 id a b
    · rw [zu_ne (by omega)]
      exact h.2.1
    · rw [zu_ne (by omega)]
      exact h.2.2
  · unfold zyQB at hB ⊢
    simp (disch := omega) only [zu_ne]
    exact hB
theorem zm_try (hW : zW M) (hF : zyFH M F H n nh) (hw : zyqw F H n nh w) : ∀ (r i : Nat), i + r = n → ∀ (f : Nat), r + 1 ≤ f → ∀ (P : yb_S) (l : Nat → Int32) (B : zyB) (u : yb_S), zyPa M F n i P l → ztx1 M F l i ≤ 10 * i → zty1 M F l i ≤ 6 * i → ztz1 M F l i ≤ i → zyQt o w n i P l B u → zs_P (gg_X12_tries f (zi i) u) (fun v => zyQt o w n i P l (zyex M F H nh r i P l (ztx1 M F l i) (zty1 M F l i) (ztz1 M F l i) B) v) := by
  intro r
  induction r with
  | zero =>
    intro i hin f hf P l B u hp hx hy hz hu
    obtain ⟨f, rfl⟩ : ∃ g, f = g + 1 := ⟨f - 1, by omega⟩
    have hn6 := hF.1
    have hin : i = n := hin
    subst hin
    obtain ⟨u1, u2, u3, u4⟩ := hu
    show zs_P (f_X12_tries (gg_X12_tries f) (zi i) u) _
    unfold f_X12_tries
    rw [u2.2.1, hw.1, if_pos rfl]
    refine zs_bind (zm_looks hW hF hw hp u1 u2 u3 u4 (by omega) (by omega) (by omega)) fun v hv => zs_ret ⟨hv.1, hv.2.1, fun k hk => ?_, hv.2.2.2⟩
    rw [hv.2.2.1 k]
    exact u3 k hk
  | succ r ih =>
    intro i hin f hf P l B u hp hx hy hz hu
    obtain ⟨f, rfl⟩ : ∃ g, f = g + 1 := ⟨f - 1, by omega⟩
    have hn6 := hF.1
    have hh6 := hF.2.1
    have h8 := zw_F8 hW
    have h24 := zw_H8 hW
    have hi : i < n := by omega
    have hfi := hF.2.2.1 i hi
    obtain ⟨n1, n2, n3⟩ := zyPa_N hp
    obtain ⟨u1, u2, u3, u4⟩ := hu
    show zs_P (f_X12_tries (gg_X12_tries f) (zi i) u) _
    unfold f_X12_tries
    rw [u2.2.1, hw.1, if_neg (by rw [zi_inj (by omega) (by omega)]; omega)]
    have ez : zyex M F H nh (r + 1) i P l (ztx1 M F l i) (zty1 M F l i) (ztz1 M F l i) B = zyex M F H nh r (i + 1) P (zyu l i (-1)) (ztx1 M F l i) (zty1 M F l i) (ztz1 M F l i) (zyfd (fun j C => if zBar P (F i) (H j) = 0 then zyex M F H nh r (i + 1) (zHs P (F i) (H j)) (zyu l i (zi (H j))) (ztx1 M F l i + zyh M F i) (zty1 M F l i + zyp M F l i (H j)) (ztz1 M F l i + zyw M F i (H j)) C else C) nh B) := rfl
    rw [ez]
    generalize hg : (fun j C => if zBar P (F i) (H j) = 0 then zyex M F H nh r (i + 1) (zHs P (F i) (H j)) (zyu l i (zi (H j))) (ztx1 M F l i + zyh M F i) (zty1 M F l i + zyp M F l i (H j)) (ztz1 M F l i + zyw M F i (H j)) C else C) = g
    unfold l_X12_tries_15
    refine zs_up (fun j a => a.1 = zi j ∧ zyQt o w n i P l (zyfd g j B) a.2) nh ?_ yb_N 0 _ (Nat.zero_le _) (by unfold yb_N; omega) (by exact ⟨rfl, u1, u2, u3, u4⟩)
    rintro j ⟨a, v⟩ rc hj ⟨i1, v1, v2, v3, v4⟩ hnx
    dsimp only at i1 v1 v2 v3 v4
    subst i1
    show zs_P (f_X12_tries_15 (gg_X12_tries f) (fun x2 s => rc (x2, s)) (zi i) (zi j) v) _
    unfold f_X12_tries_15 j_X12_tries_91
    rw [v2.2.2, hw.2.1]
    have r592 : ∀ z, zyqs w z → z.1 592 i = zi (F i) := fun z hz => by rw [hz.1 592 (by omega) (by omega)]; exact hw.2.2.1 i hi
    rcases Nat.lt_or_ge j nh with hlt | hge
    · have hHj := hF.2.2.2.2 j hlt
      have r593 : ∀ z, zyqs w z → z.1 593 j = zi (H j) := fun z hz => by rw [hz.1 593 (by omega) (by omega)]; exact hw.2.2.2 j hlt
      rw [if_neg (by rw [zi_le (by omega) (by omega)]; omega), zi_rd (by omega) (by omega), Option.bind_some, zi_rd (by omega) (by omega), Option.bind_some, r592 v v2, r593 v v2]
      refine zs_bind (zm_barOf hp.1 v1 (by rw [n1]; exact hfi) (by rw [n2]; exact hHj)) fun q hq => ?_
      have fr := zyqf_G hq.2
      have w1 := zG_Q hq.2 v1
      have w2 := zyqf_s fr v2
      have w4 := zyqf_B fr v4
      have w3 : ∀ k, k < i → q.2.1 596 k = l k := fun k hk => by
        rw [fr.1 596 (by omega) (by omega)]
        exact v3 k hk
      rw [hq.1]
      by_cases hbar : zBar P (F i) (H j) = 0
      · have eg : zyfd g (j + 1) B = zyex M F H nh r (i + 1) (zHs P (F i) (H j)) (zyu l i (zi (H j))) (ztx1 M F l i + zyh M F i) (zty1 M F l i + zyp M F l i (H j)) (ztz1 M F l i + zyw M F i (H j)) (zyfd g j B) := by
          rw [zyfd_s, ← hg]
          dsimp only
          rw [if_pos hbar]
        have hpath := zyPa_h hF hi hHj hp hbar
        have b1 := zyp_b hF (l := l) (h := H j) hi
        have b2 := zyw_b (M := M) (F := F) (i := i) (h := H j)
        obtain ⟨qh, hqh, eqh⟩ := (zw_f hW hfi).1
        have eh : zyh M F i ≤ 10 := by
          unfold zyh
          rw [eqh, zi_tn (by omega)]
          omega
        have et := ztt_h (M := M) (F := F) (l := l) (i := i) (h := H j) (by omega)
        rw [← et.1, ← et.2.1, ← et.2.2] at eg
        rw [if_pos hbar, zi_rd (by omega) (by omega), Option.bind_some, r593 q.2 w2, zi_wr (by omega) (by omega), Option.bind_some]
        have wQ := zQ_w w1 (id := 596) (k := i) (x := zi (H j)) (by omega)
        have wSB := zyqf_w (k := i) (x := zi (H j)) w2 w4
        have wL : ∀ k, k < i + 1 → (yb_pI q.2 596 i (zi (H j))).1 596 k = zyu l i (zi (H j)) k := fun k hk => by
          unfold zyu
          by_cases ek : k = i
          · rw [ek, zu_eq, if_pos rfl]
          · rw [zu_col ek, if_neg ek]
            exact w3 k (by omega)
        generalize yb_pI q.2 596 i (zi (H j)) = w5 at *
        rw [zi_rd (by omega) (by omega), Option.bind_some, zi_rd (by omega) (by omega), Option.bind_some, r592 w5 wSB.1, r593 w5 wSB.1]
        refine zs_bind (zs_fr (zm_houseH hp.1 wQ (by rw [n1]; exact hfi) (by rw [n2]; exact hHj)) (Q := fun v => zyqf w5 v) (fun v e => zyqf_h fun id a b => zfr_houses e a b)) fun w6 hw6 => ?_
        have c6 := zyPa_N hpath
        rw [zi_succ]
        refine zs_bind (ih (i + 1) (by omega) f (by omega) _ _ _ w6 hpath (by rw [et.1]; omega) (by rw [et.2.1]; omega) (by rw [et.2.2]; omega) ⟨hw6.1, zyqf_s hw6.2 wSB.1, fun k hk => ?_, zyqf_B hw6.2 wSB.2⟩) fun w7 hw7 => ?_
        · rw [hw6.2.1 596 (by omega) (by omega)]
          exact wL k hk
        · obtain ⟨r1, r2, r3, r4⟩ := hw7
          rw [zi_rd (by omega) (by omega), Option.bind_some, r592 w7 r2]
          refine zs_bind (zs_fr (zm_houseN hpath.1 r1 (by rw [c6.1]; exact hfi)) (Q := fun v => zyqf w7 v) (fun v e => zyqf_h fun id a b => zfr_houses e a b)) fun w8 hw8 => ?_
          rw [zUn_Hs (hp.2.2.2 i (Nat.le_refl _) hi).1 (hp.2.2.2 i (Nat.le_refl _) hi).2] at hw8
          rw [zi_succ]
          refine hnx hlt _ ⟨rfl, hw8.1, zyqf_s hw8.2 r2, fun k hk => ?_, ?_⟩
          · dsimp only
            rw [hw8.2.1 596 (by omega) (by omega), r3 k (by omega)]
            exact if_neg (by omega)
          · rw [eg]
            exact zyqf_B hw8.2 r4
      · rw [if_neg hbar, zi_succ]
        have eg : zyfd g (j + 1) B = zyfd g j B := by
          rw [zyfd_s, ← hg]
          dsimp only
          rw [if_neg hbar]
        exact hnx hlt _ ⟨rfl, w1, w2, w3, by rw [eg]; exact w4⟩
    · have hkl := Nat.le_antisymm hj hge
      subst hkl
      rw [if_pos (Int32.le_refl _), zi_wr (by omega) (by omega), Option.bind_some, zi_succ]
      have wQ := zQ_w v1 (id := 596) (k := i) (x := -1) (by omega)
      have wSB := zyqf_w (k := i) (x := -1) v2 v4
      have et := ztt_n (M := M) (F := F) (l := l) (i := i)
      have := ih (i + 1) (by omega) f (by omega) P (zyu l i (-1)) (zyfd g j B) (yb_pI v 596 i (-1)) (zyPa_n hi hp) (by rw [et.1]; omega) (by rw [et.2.1]; omega) (by rw [et.2.2]; omega) ⟨wQ, wSB.1, fun k hk => (by
        unfold zyu
        by_cases ek : k = i
        · rw [ek, zu_eq, if_pos rfl]
        · rw [zu_col ek, if_neg ek]
          exact v3 k (by omega)), wSB.2⟩
      rw [et.1, et.2.1, et.2.2] at this
      refine zs_bind this fun w7 hw7 => zs_ret ⟨hw7.1, hw7.2.1, fun k hk => ?_, hw7.2.2.2⟩
      rw [hw7.2.2.1 k (by omega)]
      exact if_neg (by omega)
end
