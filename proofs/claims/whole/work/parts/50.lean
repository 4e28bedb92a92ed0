/-! both place -/
theorem zo_placeAll {M m s : yb_S} {kept : Bool} {c : Nat} {q : Nat → Nat} (hW : zW M) (hA : zA M m s) (hc24 : c ≤ 24) (hinj : ∀ j k, j < c → k < c → q j = q k → j = k) (hlt : ∀ j, j < c → q j < nF M ∧ M.1 195 (q j) = 0) (h5 : kept = true → s.1 100 5 = zi (nF M)) (hord : ∀ j, j < c → s.1 101 j = zi (q j)) (hc : s.1 100 4 = zi c) : zs_P (f_X6_placeAll (cond kept 1 0) s) (fun a => a.1 = zi (zPl kept q M c).2 ∧ zA (zPl kept q M c).1 m a.2 ∧ a.2.1 100 = s.1 100 ∧ a.2.1 101 = s.1 101) := by
  have h8 := zw_F8 hW
  have h9 := zw_H8 hW
  unfold f_X6_placeAll l_X6_placeAll_4
  refine zs_up (fun k a => a.1 = zi (zPl kept q M k).2 ∧ a.2.1 = zi k ∧ zA (zPl kept q M k).1 m a.2.2 ∧ a.2.2.1 100 = s.1 100 ∧ a.2.2.1 101 = s.1 101) c ?_ yb_N 0 _ (Nat.zero_le _) (by unfold yb_N; omega) (by exact ⟨rfl, rfl, hA, rfl, rfl⟩)
  rintro k ⟨x, y, u⟩ rc hk ⟨i1, i2, i3, i4, i5⟩ hn
  dsimp only at i1 i2 i3 i4 i5
  subst i1 i2
  show zs_P (f_X6_placeAll_4 (fun x2 x3 s => rc (x2, x3, s)) (cond kept 1 0) (zi (zPl kept q M k).2) (zi k) u) _
  unfold f_X6_placeAll_4 j_X6_placeAll_59
  rw [i4, hc]
  have p := zPl_ok (kept := kept) hW hinj hlt k hk
  obtain ⟨n1, n2, n3⟩ := zN_fr (p.2.1 176 (by decide) (by decide) (by decide))
  rcases Nat.lt_or_ge k c with hkc | hge
  · have hqk := hlt k hkc
    rw [if_neg (by rw [zi_le (by omega) (by omega)]; omega), zi_rd (by omega) (by omega), Option.bind_some, i5, hord k hkc]
    refine zs_bind (zo_homeFor p.1 i3 (f := q k) (by rw [n1]; exact hqk.1)) fun a ha => ?_
    have hAa := zfo_A ha.2 i3
    rw [ha.1, n2]
    have es := zPl_s (kept := kept) (q := q) (M := M) (k := k)
    have a100 : a.2.1 100 = s.1 100 := (ha.2.1 100 (by decide) (by decide)).trans i4
    have a101 : a.2.1 101 = s.1 101 := (ha.2.1 101 (by decide) (by decide)).trans i5
    cases hz : zBst (zPl kept q M k).1 (q k) (nH M) with
    | none =>
      rw [hz] at es
      have es : zPl kept q M (k + 1) = zPl kept q M k := es
      rw [zix_n, if_pos rfl, zi_succ]
      exact hn hkc _ ⟨by rw [es], rfl, by rw [es]; exact hAa, a100, a101⟩
    | some h =>
      rw [hz] at es
      have es : zPl kept q M (k + 1) = (zHs (zWk kept q (q k) h (zPl kept q M k).1 k) (q k) h, (zPl kept q M k).2 + 1) := es
      have hb := (zBst_ok hz).1
      obtain ⟨c1, c2, c3, c4, c5⟩ := zPl_st hinj hlt hkc p hz
      rw [zix_s, if_neg (by rw [show (-1 : Int32) = zm from rfl, zi_eqm (by omega)]; exact id)]
      have fin : ∀ w : yb_S, zA (zWk kept q (q k) h (zPl kept q M k).1 k) m w → w.1 100 = s.1 100 → w.1 101 = s.1 101 → zs_P (j_X6_placeAll_41 (fun x2 x3 s => rc (x2, x3, s)) (cond kept 1 0) (zi (zPl kept q M k).2) (zi k) (zi h) w) (fun a => a.1 = zi (zPl kept q M c).2 ∧ zA (zPl kept q M c).1 m a.2 ∧ a.2.1 100 = s.1 100 ∧ a.2.1 101 = s.1 101) := by
        intro w hw w100 w101
        unfold j_X6_placeAll_41 j_X6_placeAll_59
        rw [zi_rd (by omega) (by omega), Option.bind_some, w101, hord k hkc]
        refine zs_bind (zs_fr (zo_settle c1 hw c2 c3 c4 c5) (Q := fun v => v.1 100 = w.1 100 ∧ v.1 101 = w.1 101) (fun v e => ⟨zfr_settle e (by decide), zfr_settle e (by decide)⟩)) fun v hv => ?_
        rw [zi_succ, zi_succ]
        exact hn hkc _ ⟨by rw [es], rfl, by rw [es]; exact hv.1, hv.2.1.trans w100, hv.2.2.trans w101⟩
      cases kept with
      | false =>
        show zs_P (if (0 : Int32) = 0 then _ else _) _
        rw [if_pos rfl]
        exact fin _ hAa a100 a101
      | true =>
        show zs_P (if (1 : Int32) = 0 then _ else _) _
        rw [if_neg (by decide)]
        refine zs_bind (zo_why p.1 hAa (q := q) (k := k) (h := h) (by omega) (fun j hj => by rw [n1]; exact (hlt j (by omega)).1) (by rw [n2]; exact hb) ?_ (fun j hj => ?_)) fun w hw => ?_
        · rw [n1, a100]
          exact h5 rfl
        · rw [a101]
          exact hord j (by omega)
        · exact fin _ hw.2.1 (hw.2.2.1.trans a100) (hw.2.2.2.trans a101)
  · have hkl := Nat.le_antisymm hk hge
    subst hkl
    rw [if_pos (Int32.le_refl _)]
    exact zs_ret ⟨rfl, i3, i4, i5⟩
theorem zm_places {M o s : yb_S} (hW : zW M) (hQ : zQ M o s) (kept : Bool) : zs_P (f_X12_places (cond kept 1 0) s) (fun a => a.1 = zi (zPl kept (zLine M (nF M)).2 M (zLine M (nF M)).1).2 ∧ zQ (zPl kept (zLine M (nF M)).2 M (zLine M (nF M)).1).1 o a.2 ∧ ∀ id, 603 ≤ id → a.2.1 id = s.1 id) := by
  have h8 := zw_F8 hW
  have h9 := zw_H8 hW
  unfold f_X12_places l_X12_places_8
  refine zs_bind (zm_orders hW hQ) fun u0 hu0 => ?_
  obtain ⟨hcN, hinj, hlt, -⟩ := zLine_ok (M := M) (nF M)
  generalize (zLine M (nF M)).1 = c at *
  generalize (zLine M (nF M)).2 = q at *
  obtain ⟨hQ0, e339, e65, e603⟩ := hu0
  refine zs_up (fun k a => a.1 = zi (zPl kept q M k).2 ∧ a.2.1 = zi k ∧ zQ (zPl kept q M k).1 o a.2.2 ∧ (∀ j, j < c → a.2.2.1 339 j = zi (q j)) ∧ a.2.2.1 176 65 = zi c ∧ ∀ id, 603 ≤ id → a.2.2.1 id = s.1 id) c ?_ yb_N 0 _ (Nat.zero_le _) (by unfold yb_N; omega) (by exact ⟨rfl, rfl, hQ0, e339, e65, e603⟩)
  rintro k ⟨x, y, u⟩ rc hk ⟨i1, i2, i3, i4, i5, i6⟩ hn
  dsimp only at i1 i2 i3 i4 i5 i6
  subst i1 i2
  show zs_P (f_X12_places_8 (fun x2 x3 s => rc (x2, x3, s)) (cond kept 1 0) (zi (zPl kept q M k).2) (zi k) u) _
  unfold f_X12_places_8 j_X12_places_114
  rw [i5]
  have p := zPl_ok (kept := kept) hW hinj hlt k hk
  obtain ⟨n1, n2, n3⟩ := zN_fr (p.2.1 176 (by decide) (by decide) (by decide))
  rcases Nat.lt_or_ge k c with hkc | hge
  · have hqk := hlt k hkc
    rw [if_neg (by rw [zi_le (by omega) (by omega)]; omega), zi_rd (by omega) (by omega), Option.bind_some, i4 k hkc]
    refine zs_bind (zm_homeFor p.1 i3 (f := q k) (by rw [n1]; exact hqk.1)) fun a ha => ?_
    have hQa := zG_Q ha.2 i3
    rw [ha.1, n2]
    have es := zPl_s (kept := kept) (q := q) (M := M) (k := k)
    have a339 : ∀ j, j < c → a.2.1 339 j = zi (q j) := fun j hj => (ha.2.1.1 339 j (by decide) (by decide) (by decide) (by omega)).trans (i4 j hj)
    have a65 : a.2.1 176 65 = zi c := (ha.2.1.1 176 65 (by decide) (by decide) (by decide) (by decide)).trans i5
    have a603 : ∀ id, 603 ≤ id → a.2.1 id = s.1 id := fun id hid => (funext fun j => ha.2.1.1 id j (by omega) (by omega) (by omega) (by omega) : a.2.1 id = u.1 id).trans (i6 id hid)
    cases hz : zBst (zPl kept q M k).1 (q k) (nH M) with
    | none =>
      rw [hz] at es
      have es : zPl kept q M (k + 1) = zPl kept q M k := es
      rw [zix_n, if_pos rfl, zi_succ]
      exact hn hkc _ ⟨by rw [es], rfl, by rw [es]; exact hQa, a339, a65, a603⟩
    | some h =>
      rw [hz] at es
      have es : zPl kept q M (k + 1) = (zHs (zWk kept q (q k) h (zPl kept q M k).1 k) (q k) h, (zPl kept q M k).2 + 1) := es
      have hb := (zBst_ok hz).1
      obtain ⟨c1, c2, c3, c4, c5⟩ := zPl_st hinj hlt hkc p hz
      rw [zix_s, if_neg (by rw [show (-1 : Int32) = zm from rfl, zi_eqm (by omega)]; exact id)]
      unfold l_X12_places_44
      refine zs_up (fun n b => b.1 = zi n ∧ zQ (zWk kept q (q k) h (zPl kept q M k).1 n) o b.2 ∧ (∀ j, j < c → b.2.1 339 j = zi (q j)) ∧ b.2.1 176 65 = zi c ∧ ∀ id, 603 ≤ id → b.2.1 id = s.1 id) k ?_ yb_N 0 _ (Nat.zero_le _) (by unfold yb_N; omega) (by
        refine ⟨rfl, ?_, a339, a65, a603⟩
        cases kept with
        | false => exact hQa
        | true => exact hQa)
      rintro n ⟨x, w⟩ rd hnk ⟨j1, j2, j3, j4, j5⟩ hm
      dsimp only at j1 j2 j3 j4 j5
      subst j1
      show zs_P (f_X12_places_44 (fun x2 x3 s => rc (x2, x3, s)) (fun x6 s => rd (x6, s)) (cond kept 1 0) (zi (zPl kept q M k).2) (zi k) (zi (q k)) (zi h) (zi n) w) _
      unfold f_X12_places_44 j_X12_places_97
      have fin : zQ (zWk kept q (q k) h (zPl kept q M k).1 k) o w → zs_P (j_X12_places_103 (fun x2 x3 s => rc (x2, x3, s)) (cond kept 1 0) (zi (zPl kept q M k).2) (zi k) (zi (q k)) (zi h) w) (fun a => a.1 = zi (zPl kept q M c).2 ∧ zQ (zPl kept q M c).1 o a.2 ∧ ∀ id, 603 ≤ id → a.2.1 id = s.1 id) := by
        intro hw
        unfold j_X12_places_103 j_X12_places_114
        refine zs_bind (zs_fr (zm_houseH c1 hw c2 c3) (Q := fun v => ∀ id, id ≠ 195 → id ≠ 196 → v.1 id = w.1 id) (fun v e id g1 g2 => zfr_houses e g1 g2)) fun v hv => ?_
        rw [zi_succ, zi_succ]
        refine hn hkc _ ⟨by rw [es], rfl, by rw [es]; exact hv.1, fun j hj => ?_, ?_, fun id hid => ?_⟩
        · dsimp only
          rw [hv.2 339 (by decide) (by decide)]
          exact j3 j hj
        · dsimp only
          rw [hv.2 176 (by decide) (by decide)]
          exact j4
        · dsimp only
          rw [hv.2 id (by omega) (by omega)]
          exact j5 id hid
      rcases Nat.lt_or_ge n k with hnlt | hge
      · rw [if_neg (by rw [zi_le (by omega) (by omega)]; omega)]
        cases kept with
        | false =>
          show zs_P (if (0 : Int32) = 0 then _ else _) _
          rw [if_pos rfl]
          exact fin j2
        | true =>
          show zs_P (if (1 : Int32) = 0 then _ else _) _
          rw [if_neg (by decide)]
          have hqn := hlt n (by omega)
          have j2 : zQ (zWy q (q k) h (zPl true q M k).1 n) o w := j2
          obtain ⟨y1, y2⟩ := zWy_N (q := q) (f := q k) (h := h) (M := (zPl true q M k).1) (n := n) (fun j hj => by have := (hlt j (by omega)).1; omega)
          have hWn := (zWy_W (q := q) (f := q k) (h := h) p.1 (n := n) (fun j hj => by rw [n1]; exact (hlt j (by omega)).1)).1
          simp (disch := omega) only [zi_rd, Option.bind_some, j3 n (by omega), zq j2]
          have hs := zWy_s (q := q) (f := q k) (h := h) (M := (zPl true q M k).1) (n := n)
          by_cases e0 : (zWy q (q k) h (zPl true q M k).1 n).1 195 (q n) = 0
          · rw [if_pos e0] at hs ⊢
            rw [zi_ri (by omega) (by omega), Option.bind_some]
            refine zs_bind (zm_barOf hWn j2 (by rw [y1, n1]; exact hqn.1) (by rw [y2, n2]; exact hb)) fun b hb2 => ?_
            have hQb := zG_Q hb2.2 j2
            have := hqk.1
            rw [hb2.1, zi_wr (by omega) (by omega), Option.bind_some, zi_succ]
            refine hm hnlt _ ⟨rfl, ?_, fun j hj => ?_, ?_, fun id hid => ?_⟩
            · show zQ (zWy q (q k) h (zPl true q M k).1 (n + 1)) o _
              rw [hs]
              exact zQ_e hQb (by have := hqn.1; omega)
            · dsimp only
              rw [zu_ne (by have := hqn.1; omega), hb2.2.1.1 339 j (by decide) (by decide) (by decide) (by omega)]
              exact j3 j hj
            · dsimp only
              rw [zu_ne (by have := hqn.1; omega), hb2.2.1.1 176 65 (by decide) (by decide) (by decide) (by decide)]
              exact j4
            · dsimp only
              rw [zu_nef (by have := hqn.1; omega), (funext fun j => hb2.2.1.1 id j (by omega) (by omega) (by omega) (by omega) : b.2.1 id = w.1 id)]
              exact j5 id hid
          · rw [if_neg e0] at hs ⊢
            rw [zi_succ]
            refine hm hnlt _ ⟨rfl, ?_, j3, j4, j5⟩
            show zQ (zWy q (q k) h (zPl true q M k).1 (n + 1)) o _
            rw [hs]
            exact j2
      · have hkl := Nat.le_antisymm hnk hge
        subst hkl
        rw [if_pos (Int32.le_refl _)]
        exact fin j2
  · have hkl := Nat.le_antisymm hk hge
    subst hkl
    rw [if_pos (Int32.le_refl _)]
    exact zs_ret ⟨rfl, i3, i6⟩
