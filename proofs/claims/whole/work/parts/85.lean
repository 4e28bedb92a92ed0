/-! best: the reference tries all -/
theorem zKin_sym {M : yb_S} {f q : Nat} : zKin M f q = zKin M q f := by
  unfold zKin
  rw [Bool.or_comm, show (f != q) = (q != f) from by
    rw [Bool.eq_iff_iff, bne_iff_ne, bne_iff_ne]
    exact ⟨Ne.symm, Ne.symm⟩]
section
variable {M o w : yb_S} {F H : Nat → Nat} {n nh : Nat}
def zyqs (w u : yb_S) : Prop := (∀ id, 592 ≤ id → id < 596 → u.1 id = w.1 id) ∧ u.1 176 74 = w.1 176 74 ∧ u.1 176 75 = w.1 176 75
def zyQB (n : Nat) (B : zyB) (u : yb_S) : Prop := match B with
  | none => u.1 176 76 = -1
  | some (a, b, c, l) => a ≤ 60 ∧ b ≤ 60 ∧ c ≤ 60 ∧ u.1 176 76 = zi a ∧ u.1 176 77 = zi b ∧ u.1 176 78 = zi c ∧ ∀ k, k < n → u.1 597 k = l k
/-- w holds what is asked -/
def zyqw (F H : Nat → Nat) (n nh : Nat) (w : yb_S) : Prop := w.1 176 74 = zi n ∧ w.1 176 75 = zi nh ∧ (∀ k, k < n → w.1 592 k = zi (F k)) ∧ ∀ j, j < nh → w.1 593 j = zi (H j)
/-- the cells of the search are as they were -/
def zyqf (u v : yb_S) : Prop := (∀ id, 592 ≤ id → id < 598 → v.1 id = u.1 id) ∧ ∀ k, 74 ≤ k → k < 79 → v.1 176 k = u.1 176 k
theorem zyqf_s {u v : yb_S} (f : zyqf u v) (h : zyqs w u) : zyqs w v := ⟨fun id a b => (f.1 id a (by omega)).trans (h.1 id a b), (f.2 74 (by omega) (by omega)).trans h.2.1, (f.2 75 (by omega) (by omega)).trans h.2.2⟩
theorem zyqf_B {B : zyB} {u v : yb_S} (f : zyqf u v) (h : zyQB n B u) : zyQB n B v := by
  cases B with
  | none =>
    show v.1 176 76 = -1
    rw [f.2 76 (by omega) (by omega)]
    exact h
  | some q =>
    obtain ⟨a, b, c, l⟩ := q
    show a ≤ 60 ∧ b ≤ 60 ∧ c ≤ 60 ∧ v.1 176 76 = zi a ∧ v.1 176 77 = zi b ∧ v.1 176 78 = zi c ∧ ∀ k, k < n → v.1 597 k = l k
    rw [f.2 76 (by omega) (by omega), f.2 77 (by omega) (by omega), f.2 78 (by omega) (by omega), f.1 597 (by omega) (by omega)]
    exact h
theorem zyqf_K {u v : yb_S} (h : zK u v) : zyqf u v := ⟨fun id a b => funext fun k => h.1.1 id k (by omega) (by omega), fun k a b => h.1.1 176 k (by omega) (by omega)⟩
theorem zyqf_G {u v : yb_S} (h : zG u v) : zyqf u v := ⟨fun id a b => funext fun k => h.1.1 id k (by omega) (by omega) (by omega) (by omega), fun k a b => h.1.1 176 k (by omega) (by omega) (by omega) (by omega)⟩
/-- totals of a line -/
def ztx1 (M : yb_S) (F : Nat → Nat) (l : Nat → Int32) (i : Nat) : Nat := zns (fun j => cond (l j == -1) 0 (zyh M F j)) i
def zty1 (M : yb_S) (F : Nat → Nat) (l : Nat → Int32) (i : Nat) : Nat := zns (fun j => cond (l j == -1) 0 (zyp M F l j (l j).toNatClampNeg)) i
def ztz1 (M : yb_S) (F : Nat → Nat) (l : Nat → Int32) (i : Nat) : Nat := zns (fun j => cond (l j == -1) 0 (zyw M F j (l j).toNatClampNeg)) i
theorem zyp_c {l l' : Nat → Int32} {i h : Nat} (e : ∀ j, j < i → l j = l' j) : zyp M F l i h = zyp M F l' i h := zns_c fun j hj => by
  unfold zyk
  rw [e j hj]
theorem zyu_lt {l : Nat → Int32} {i j : Nat} {v : Int32} (h : j < i) : zyu l i v j = l j := if_neg (by omega)
theorem zyu_eq {l : Nat → Int32} {i : Nat} {v : Int32} : zyu l i v i = v := if_pos rfl
theorem ztt_0 {l : Nat → Int32} {i : Nat} {v : Int32} : ztx1 M F (zyu l i v) i = ztx1 M F l i ∧ zty1 M F (zyu l i v) i = zty1 M F l i ∧ ztz1 M F (zyu l i v) i = ztz1 M F l i := by
  refine ⟨zns_c fun j hj => ?_, zns_c fun j hj => ?_, zns_c fun j hj => ?_⟩
  · rw [zyu_lt hj]
  · rw [zyu_lt hj, zyp_c (l := zyu l i v) (l' := l) fun k hk => zyu_lt (by omega)]
  · rw [zyu_lt hj]
theorem ztt_n {l : Nat → Int32} {i : Nat} : ztx1 M F (zyu l i (-1)) (i + 1) = ztx1 M F l i ∧ zty1 M F (zyu l i (-1)) (i + 1) = zty1 M F l i ∧ ztz1 M F (zyu l i (-1)) (i + 1) = ztz1 M F l i := by
  obtain ⟨e1, e2, e3⟩ := ztt_0 (M := M) (F := F) (l := l) (i := i) (v := -1)
  rw [← e1, ← e2, ← e3]
  have ez : (zyu l i (-1) i == -1) = true := by rw [zyu_eq]; rfl
  refine ⟨?_, ?_, ?_⟩
  · show zns _ i + cond (zyu l i (-1) i == -1) 0 _ = zns _ i
    rw [ez]
    rfl
  · show zns _ i + cond (zyu l i (-1) i == -1) 0 _ = zns _ i
    rw [ez]
    rfl
  · show zns _ i + cond (zyu l i (-1) i == -1) 0 _ = zns _ i
    rw [ez]
    rfl
theorem ztt_h {l : Nat → Int32} {i h : Nat} (hh : h < 2147483648) : ztx1 M F (zyu l i (zi h)) (i + 1) = ztx1 M F l i + zyh M F i ∧ zty1 M F (zyu l i (zi h)) (i + 1) = zty1 M F l i + zyp M F l i h ∧ ztz1 M F (zyu l i (zi h)) (i + 1) = ztz1 M F l i + zyw M F i h := by
  obtain ⟨e1, e2, e3⟩ := ztt_0 (M := M) (F := F) (l := l) (i := i) (v := zi h)
  rw [← e1, ← e2, ← e3]
  have ez : (zyu l i (zi h) i == -1) = false := by rw [zyu_eq]; exact beq_eq_false_iff_ne.mpr (by rw [Ne, zi_m1 hh]; exact fun q => q)
  have et : (zyu l i (zi h) i).toNatClampNeg = h := by rw [zyu_eq, zi_tn hh]
  refine ⟨?_, ?_, ?_⟩
  · show zns _ i + cond (zyu l i (zi h) i == -1) 0 _ = _
    rw [ez]
    rfl
  · show zns _ i + cond (zyu l i (zi h) i == -1) 0 (zyp M F (zyu l i (zi h)) i (zyu l i (zi h) i).toNatClampNeg) = _
    rw [ez, et, zyp_c (l := zyu l i (zi h)) (l' := l) fun k hk => zyu_lt hk]
    rfl
  · show zns _ i + cond (zyu l i (zi h) i == -1) 0 (zyw M F i (zyu l i (zi h) i).toNatClampNeg) = _
    rw [ez, et]
    rfl
theorem zm_looks (hW : zW M) (hF : zyFH M F H n nh) (hw : zyqw F H n nh w) {P u : yb_S} {l : Nat → Int32} {B : zyB} (hp : zyPa M F n n P l) (hQ : zQ P o u) (hs : zyqs w u) (hl : ∀ k, k < n → u.1 596 k = l k) (hB : zyQB n B u) (bx : ztx1 M F l n ≤ 60) (by' : zty1 M F l n ≤ 60) (bz : ztz1 M F l n ≤ 60) : zs_P (f_X12_looks u) (fun v => zQ P o v ∧ zyqs w v ∧ (∀ k, v.1 596 k = u.1 596 k) ∧ zyQB n (cond (zyb (ztx1 M F l n) (zty1 M F l n) (ztz1 M F l n) B) (some (ztx1 M F l n, zty1 M F l n, ztz1 M F l n, l)) B) v) := by
  have hn6 := hF.1
  have h8 := zw_F8 hW
  have h24 := zw_H8 hW
  obtain ⟨n1, n2, n3⟩ := zyPa_N hp
  unfold f_X12_looks l_X12_looks_9
  refine zs_up (fun k a => a.1 = zi (ztx1 M F l k) ∧ a.2.1 = zi (zty1 M F l k) ∧ a.2.2.1 = zi (ztz1 M F l k) ∧ a.2.2.2.1 = zi k ∧ zK u a.2.2.2.2) n ?_ yb_N 0 _ (Nat.zero_le _) (by unfold yb_N; omega) (by exact ⟨rfl, rfl, rfl, rfl, zK_refl u⟩)
  rintro k ⟨a1, a2, a3, a4, v⟩ rc hk ⟨i1, i2, i3, i4, i5⟩ hnx
  dsimp only at i1 i2 i3 i4 i5
  subst i1 i2 i3 i4
  show zs_P (f_X12_looks_9 (fun x1 x2 x3 x4 s => rc (x1, x2, x3, x4, s)) (zi (ztx1 M F l k)) (zi (zty1 M F l k)) (zi (ztz1 M F l k)) (zi k) v) _
  have vf := zyqf_K i5
  have vQ := zK_Q i5 hQ
  have vs := zyqf_s vf hs
  have v74 : v.1 176 74 = zi n := vs.2.1.trans hw.1
  have v592 : ∀ k, k < n → v.1 592 k = zi (F k) := fun k hk => by rw [vs.1 592 (by omega) (by omega)]; exact hw.2.2.1 k hk
  have v596 : ∀ k, k < n → v.1 596 k = l k := fun k hk => by rw [vf.1 596 (by omega) (by omega)]; exact hl k hk
  unfold f_X12_looks_9
  rw [v74]
  rcases Nat.lt_or_ge k n with hlt | hge
  · have hfk := hF.2.2.1 k hlt
    rw [if_neg (by rw [zi_le (by omega) (by omega)]; omega), zi_rd (by omega) (by omega), Option.bind_some, v596 k hlt]
    have ex : ztx1 M F l (k + 1) = ztx1 M F l k + cond (l k == -1) 0 (zyh M F k) := rfl
    have ey : zty1 M F l (k + 1) = zty1 M F l k + cond (l k == -1) 0 (zyp M F l k (l k).toNatClampNeg) := rfl
    have ez : ztz1 M F l (k + 1) = ztz1 M F l k + cond (l k == -1) 0 (zyw M F k (l k).toNatClampNeg) := rfl
    rcases hp.2.2.1 k hlt with ⟨q1, -⟩ | ⟨h, hh, q1, -⟩
    · unfold j_X12_looks_165
      rw [q1, if_pos rfl, zi_succ]
      rw [q1, show ((-1 : Int32) == -1) = true from rfl] at ex ey ez
      exact hnx hlt _ ⟨by rw [ex]; rfl, by rw [ey]; rfl, by rw [ez]; rfl, rfl, i5⟩
    · rw [q1, show (zi h == -1) = false from beq_eq_false_iff_ne.mpr (by rw [Ne, zi_m1 (by omega)]; exact fun q => q)] at ex ey ez
      rw [zi_tn (by omega)] at ey ez
      obtain ⟨qh, hqh, eqh⟩ := (zw_f hW hfk).1
      have eh : M.1 189 (F k) = zi (zyh M F k) := by
        unfold zyh
        rw [eqh, zi_tn (by omega)]
      rw [q1, if_neg (by rw [zi_m1 (by omega)]; exact fun q => q), zi_rd (by omega) (by omega), Option.bind_some, v592 k hlt, zi_rd (by omega) (by omega), Option.bind_some, zq vQ (by omega), hp.2.1 189 (by decide) (by decide), Option.bind_some, zi_rd (by omega) (by omega), Option.bind_some, zq vQ (by omega), hp.2.1 199 (by decide) (by decide), Option.bind_some, zi_rd (by omega) (by omega), Option.bind_some, zq vQ (by omega), hp.2.1 183 (by decide) (by decide), eh, zi_add]
      -- the inner loop
      have inner : zs_P (l_X12_looks_85 (fun x1 x2 x3 x4 s => rc (x1, x2, x3, x4, s)) (zi (ztx1 M F l (k + 1))) (zi (ztz1 M F l (k + 1))) (zi k) yb_N (zi (zty1 M F l k)) (0 : Int32) v) (fun v => zQ P o v ∧ zyqs w v ∧ (∀ k, v.1 596 k = u.1 596 k) ∧ zyQB n (cond (zyb (ztx1 M F l n) (zty1 M F l n) (ztz1 M F l n) B) (some (ztx1 M F l n, zty1 M F l n, ztz1 M F l n, l)) B) v) := by
        unfold l_X12_looks_85
        refine zs_up (fun x a => a.1 = zi (zty1 M F l k + zns (fun j => cond (zyk M F l k h j) 1 0) x) ∧ a.2.1 = zi x ∧ zK u a.2.2) k ?_ yb_N 0 _ (Nat.zero_le _) (by unfold yb_N; omega) (by exact ⟨rfl, rfl, i5⟩)
        rintro x ⟨b1, b2, z⟩ rd hx ⟨j1, j2, j3⟩ hm
        dsimp only at j1 j2 j3
        subst j1 j2
        show zs_P (f_X12_looks_85 (fun x1 x2 x3 x4 s => rc (x1, x2, x3, x4, s)) (fun x2 x5 s => rd (x2, x5, s)) (zi (ztx1 M F l (k + 1))) (zi (ztz1 M F l (k + 1))) (zi k) (zi (zty1 M F l k + zns (fun j => cond (zyk M F l k h j) 1 0) x)) (zi x) z) _
        have zf := zyqf_K j3
        have zQ' := zK_Q j3 hQ
        have zs := zyqf_s zf hs
        have z592 : ∀ k, k < n → z.1 592 k = zi (F k) := fun k hk => by rw [zs.1 592 (by omega) (by omega)]; exact hw.2.2.1 k hk
        have z596 : ∀ k, k < n → z.1 596 k = l k := fun k hk => by rw [zf.1 596 (by omega) (by omega)]; exact hl k hk
        unfold f_X12_looks_85 j_X12_looks_156 j_X12_looks_157
        rcases Nat.lt_or_ge x k with hxl | hxg
        · have hfx := hF.2.2.1 x (by omega)
          have es : zns (fun j => cond (zyk M F l k h j) 1 0) (x + 1) = zns (fun j => cond (zyk M F l k h j) 1 0) x + cond (zyk M F l k h x) 1 0 := rfl
          rw [if_neg (by rw [zi_le (by omega) (by omega)]; omega), zi_rd (by omega) (by omega), Option.bind_some, z596 x (by omega)]
          have no : zyk M F l k h x = false → ∀ z', zK u z' → zs_P (rd (zi (zty1 M F l k + zns (fun j => cond (zyk M F l k h j) 1 0) x) + 0, zi x + 1, z')) (fun v => zQ P o v ∧ zyqs w v ∧ (∀ k, v.1 596 k = u.1 596 k) ∧ zyQB n (cond (zyb (ztx1 M F l n) (zty1 M F l n) (ztz1 M F l n) B) (some (ztx1 M F l n, zty1 M F l n, ztz1 M F l n, l)) B) v) := fun e z' hz' => by
            rw [Int32.add_zero, zi_succ]
            refine hm hxl _ ⟨?_, rfl, hz'⟩
            rw [es, e]
            rfl
          rcases hp.2.2.1 x (by omega) with ⟨r1, -⟩ | ⟨h', hh', r1, -⟩
          · rw [r1, if_pos rfl]
            exact no (by unfold zyk; rw [r1, show ((-1 : Int32) != -1) = false from rfl, Bool.false_and, Bool.and_false]) z j3
          · have e1 : zyk M F l k h x = (zKin M (F x) (F k) && (M.1 183 h' == M.1 183 h)) := by
              unfold zyk
              rw [r1, zi_tn (by omega), show (zi h' != -1) = true from bne_iff_ne.mpr (by rw [Ne, zi_m1 (by omega)]; exact fun q => q), Bool.true_and, zKin_sym]
            rw [r1, if_neg (by rw [zi_m1 (by omega)]; exact fun q => q), Option.bind_some, zi_rd (by omega) (by omega), Option.bind_some, zq zQ' (by omega), hp.2.1 183 (by decide) (by decide), zi_rd (by omega) (by omega), Option.bind_some, z596 k hlt, q1, zi_rd (by omega) (by omega), Option.bind_some, zq zQ' (by omega), hp.2.1 183 (by decide) (by decide)]
            by_cases ct : M.1 183 h' = M.1 183 h
            · rw [if_pos ct, zi_rd (by omega) (by omega), Option.bind_some, z592 x (by omega), zi_rd (by omega) (by omega), Option.bind_some, z592 k hlt]
              refine zs_bind (zm_areKin hp.1 zQ' (by rw [n1]; exact hfx) (by rw [n1]; exact hfk)) fun y hy => ?_
              rw [zKin_P hp.2.1] at hy
              rw [hy.1]
              cases hkin : zKin M (F x) (F k)
              · rw [if_pos (show zb false = 0 from rfl)]
                exact no (by rw [e1, hkin]; rfl) _ (zK_trans j3 hy.2)
              · rw [if_neg (show ¬ zb true = 0 by decide), zi_succ, zi_succ]
                refine hm hxl _ ⟨?_, rfl, zK_trans j3 hy.2⟩
                rw [es, e1, hkin, ct, beq_self_eq_true]
                rfl
            · rw [if_neg ct]
              exact no (by rw [e1, beq_eq_false_iff_ne.mpr ct, Bool.and_false]) z j3
        · have hxk := Nat.le_antisymm hx hxg
          subst hxk
          unfold j_X12_looks_165
          rw [if_pos (Int32.le_refl _), zi_succ]
          exact hnx hlt _ ⟨rfl, by rw [ey]; rfl, rfl, rfl, j3⟩
      unfold j_X12_looks_80
      by_cases cw : M.1 199 (F k) = M.1 183 h
      · rw [if_pos cw, zi_succ]
        have e3 : ztz1 M F l (k + 1) = ztz1 M F l k + 1 := by
          rw [ez]
          show _ + zyw M F k h = _
          unfold zyw
          rw [cw, beq_self_eq_true]
          rfl
        rw [e3, show ztx1 M F l (k + 1) = ztx1 M F l k + zyh M F k from ex] at inner
        exact inner
      · rw [if_neg cw, Int32.add_zero]
        have e3 : ztz1 M F l (k + 1) = ztz1 M F l k := by
          rw [ez]
          show _ + zyw M F k h = _
          unfold zyw
          rw [beq_eq_false_iff_ne.mpr cw]
          rfl
        rw [e3, show ztx1 M F l (k + 1) = ztx1 M F l k + zyh M F k from ex] at inner
        exact inner
  · have hkl := Nat.le_antisymm hk hge
    subst hkl
    have vB := zyqf_B vf hB
    rw [if_pos (Int32.le_refl _)]
    generalize ztx1 M F l k = x at *
    generalize zty1 M F l k = y at *
    generalize ztz1 M F l k = z at *
    have stay : zyb x y z B = false → zs_P (some v) (fun v => zQ P o v ∧ zyqs w v ∧ (∀ k, v.1 596 k = u.1 596 k) ∧ zyQB k (cond (zyb x y z B) (some (x, y, z, l)) B) v) := fun e => by
      rw [e]
      exact zs_ret ⟨vQ, vs, fun j => by rw [vf.1 596 (by omega) (by omega)], vB⟩
    have take : zyb x y z B = true → zs_P (j_X12_looks_212 (zi x) (zi y) (zi z) v) (fun v => zQ P o v ∧ zyqs w v ∧ (∀ k, v.1 596 k = u.1 596 k) ∧ zyQB k (cond (zyb x y z B) (some (x, y, z, l)) B) v) := fun e => by
      rw [e]
      unfold j_X12_looks_212
      rw [Option.bind_some, Option.bind_some, Option.bind_some]
      have q3 := zQ_k (zQ_k (zQ_k vQ (k := 76) (x := zi x) (by omega)) (k := 77) (x := zi y) (by omega)) (k := 78) (x := zi z) (by omega)
      have e0 : ∀ id j, id ≠ 176 ∨ (j ≠ 76 ∧ j ≠ 77 ∧ j ≠ 78) → (yb_pI (yb_pI (yb_pI v 176 76 (zi x)) 176 77 (zi y)) 176 78 (zi z)).1 id j = v.1 id j := fun id j q => by
        by_cases e : id = 176
        · subst e
          rw [zu_id, if_neg (by omega), zu_id, if_neg (by omega), zu_id, if_neg (by omega)]
        · rw [zu_ne e, zu_ne e, zu_ne e]
      have e1 : (yb_pI (yb_pI (yb_pI v 176 76 (zi x)) 176 77 (zi y)) 176 78 (zi z)).1 176 76 = zi x := by rw [zu_id, if_neg (by decide), zu_id, if_neg (by decide), zu_eq]
      have e2 : (yb_pI (yb_pI (yb_pI v 176 76 (zi x)) 176 77 (zi y)) 176 78 (zi z)).1 176 77 = zi y := by rw [zu_id, if_neg (by decide), zu_eq]
      have e3 : (yb_pI (yb_pI (yb_pI v 176 76 (zi x)) 176 77 (zi y)) 176 78 (zi z)).1 176 78 = zi z := zu_eq
      generalize yb_pI (yb_pI (yb_pI v 176 76 (zi x)) 176 77 (zi y)) 176 78 (zi z) = v3 at *
      unfold l_X12_looks_230
      refine zs_up (fun c a => a.1 = zi c ∧ zQ P o a.2 ∧ (∀ id j, id ≠ 597 → a.2.1 id j = v3.1 id j) ∧ ∀ j, j < c → a.2.1 597 j = l j) k ?_ yb_N 0 _ (Nat.zero_le _) (by unfold yb_N; omega) (by exact ⟨rfl, q3, fun _ _ _ => rfl, fun j hj => absurd hj (Nat.not_lt_zero _)⟩)
      rintro c ⟨a, v4⟩ rd hc ⟨j1, j2, j3, j4⟩ hm
      dsimp only at j1 j2 j3 j4
      subst j1
      show zs_P (f_X12_looks_230 (fun x4 s => rd (x4, s)) (zi c) v4) _
      unfold f_X12_looks_230
      rw [j3 176 74 (by omega), e0 176 74 (by omega), v74]
      rcases Nat.lt_or_ge c k with hcl | hcg
      · rw [if_neg (by rw [zi_le (by omega) (by omega)]; omega), zi_rd (by omega) (by omega), Option.bind_some, zi_wr (by omega) (by omega), Option.bind_some, zi_succ]
        refine hm hcl _ ⟨rfl, zQ_w j2 (by omega), fun id j q => ?_, fun j hj => ?_⟩
        · dsimp only
          rw [zu_ne q]
          exact j3 id j q
        · dsimp only
          by_cases e : j = c
          · rw [e, zu_eq, j3 596 c (by omega), e0 596 c (by omega)]
            exact v596 c hcl
          · rw [zu_col e]
            exact j4 j (by omega)
      · have hck := Nat.le_antisymm hc hcg
        subst hck
        rw [if_pos (Int32.le_refl _)]
        have ef : ∀ id j, id ≠ 597 → id ≠ 176 ∨ (j ≠ 76 ∧ j ≠ 77 ∧ j ≠ 78) → v4.1 id j = v.1 id j := fun id j a b => (j3 id j a).trans (e0 id j b)
        refine zs_ret ⟨j2, ⟨fun id a b => ?_, ?_, ?_⟩, fun j => ?_, bx, by', bz, ?_, ?_, ?_, j4⟩
        · funext j
          rw [ef id j (by omega) (by omega), vs.1 id a b]
        · rw [ef 176 74 (by omega) (by omega)]
          exact vs.2.1
        · rw [ef 176 75 (by omega) (by omega)]
          exact vs.2.2
        · rw [ef 596 j (by omega) (by omega), vf.1 596 (by omega) (by omega)]
        · rw [j3 176 76 (by omega)]
          exact e1
        · rw [j3 176 77 (by omega)]
          exact e2
        · rw [j3 176 78 (by omega)]
          exact e3
    cases B with
    | none =>
      have vB : v.1 176 76 = -1 := vB
      rw [vB, if_neg (by rw [show (-1 : Int32) = zm from rfl, zi_ltm (by omega)]; exact fun q => q), if_neg (by rw [zi_m1 (by omega)]; exact fun q => q)]
      exact take rfl
    | some q =>
      obtain ⟨a, b, c, bl⟩ := q
      obtain ⟨g1, g2, g3, g4, g5, g6, g7⟩ := vB
      rw [g4, g5, g6]
      have dec : zyb x y z (some (a, b, c, bl)) = true ↔ a < x ∨ (a = x ∧ (b < y ∨ (b = y ∧ c < z))) := zyb_t
      have neg : ¬ (a < x ∨ (a = x ∧ (b < y ∨ (b = y ∧ c < z)))) → zyb x y z (some (a, b, c, bl)) = false := fun q => by
        cases hz : zyb x y z (some (a, b, c, bl))
        · rfl
        · exact absurd (dec.mp hz) q
      by_cases c1 : x < a
      · rw [if_pos (by rw [zi_lt (by omega) (by omega)]; exact c1)]
        exact stay (neg (by omega))
      · rw [if_neg (by rw [zi_lt (by omega) (by omega)]; exact c1)]
        by_cases c2 : x = a
        · rw [if_pos (by rw [c2])]
          by_cases c3 : y < b
          · rw [if_pos (by rw [zi_lt (by omega) (by omega)]; exact c3)]
            exact stay (neg (by omega))
          · rw [if_neg (by rw [zi_lt (by omega) (by omega)]; exact c3)]
            by_cases c4 : y = b
            · rw [if_pos (by rw [c4])]
              by_cases c5 : c < z
              · rw [if_pos (by rw [zi_lt (by omega) (by omega)]; exact c5)]
                exact take (dec.mpr (by omega))
              · rw [if_neg (by rw [zi_lt (by omega) (by omega)]; exact c5)]
                exact stay (neg (by omega))
            · rw [if_neg (by rw [zi_inj (by omega) (by omega)]; exact c4)]
              exact take (dec.mpr (by omega))
        · rw [if_neg (by rw [zi_inj (by omega) (by omega)]; exact c2)]
          exact take (dec.mpr (by omega))
end
