/-! who is kin, kept up by the class -/
def zKt (F : Nat → Nat → Bool) (n : Nat) (s : yb_S) : Prop := ∀ f, f < 24 → s.1 52 f = zbits (fun q => (f != q) && F f q) n ∧ s.1 53 f = zbits (fun q => (f != q) && (F f q || F q f)) n
def zfkk (s t : yb_S) : Prop := (∀ id, id ≠ 52 → id ≠ 53 → t.1 id = s.1 id) ∧ t.2 = s.2
theorem zfkk_refl (s : yb_S) : zfkk s s := ⟨fun _ _ _ => rfl, rfl⟩
theorem zfkk_trans {s t u : yb_S} (h : zfkk s t) (k : zfkk t u) : zfkk s u := ⟨fun id a b => (k.1 id a b).trans (h.1 id a b), k.2.trans h.2⟩
theorem zfkk_w {s t : yb_S} (h : zfkk s t) {id k : Nat} {x : Int32} (hid : id = 52 ∨ id = 53) : zfkk s (yb_pI t id k x) := ⟨fun a h1 h2 => (zu_nef (by omega)).trans (h.1 a h1 h2), h.2⟩
theorem zRr_k {s t M : yb_S} (h : zfkk s t) (hr : zRr s M) : zRr t M := by
  have c : ∀ id, id ≠ 52 ∧ id ≠ 53 → t.1 id = s.1 id := fun id q => h.1 id q.1 q.2
  unfold zRr at hr ⊢
  simp (disch := omega) only [c]
  exact hr
theorem zOf_lt {M : yb_S} (hW : zW M) {r f : Nat} (hf : f < 2147483648) (h : zOf M r f = true) : f < nF M := by
  have h8 := zw_F8 hW
  rw [zOf_a] at h
  obtain ⟨x, hx, e⟩ := zany_t.mp h
  simp only [Bool.and_eq_true, beq_iff_eq] at e
  rcases (zw_r hW hx).2.1 with q | ⟨g, hg, q⟩
  · rw [q, show ((-1 : Int32) = zi f) = False from zi_meq hf] at e
    exact e.1.elim
  · rw [q, zi_inj (by omega) hf] at e
    omega
theorem zbits_inv {n g : Nat} (hn : n ≤ 31) (hg : g < n) {p : Nat → Bool} : zbits p n &&& (((1 : Int32) <<< (zi g &&& 31)) ^^^ (-1 : Int32)) = zbits (fun q => p q && !(q == g)) n := (zbits_clr hn hg fun _ _ => rfl).symm
theorem zo_pts' {M s : yb_S} (hW : zW M) (hr : zRr s M) {r k : Nat} (hrn : r < nR M) (hk : k < nK M) : f_X7_points (zi r) (M.1 215 k) (M.1 216 k) s = some (zPt M k r) := by
  have e := hr.2.2.1 r hrn
  rw [zo_pts (hr.1.trans (zw_R hW)) (zw_R8 hW) hrn, e.2.1, e.2.2.1, zPt_comm hW hrn hk]
theorem zo_note1 {M s : yb_S} {F : Nat → Nat → Bool} (hW : zW M) (hr : zRr s M) (hK : zKt F (nF M) s) {r k : Nat} (hrn : r < nR M) (hk : k < nK M) : zs_P (f_X7_noteIfFound (zi k) (zi r) s) (fun u => zfkk s u ∧ zKt (fun f q => F f q || zHit M f q r k) (nF M) u) := by
  have h8 := zw_F8 hW
  have hR8 := zw_R8 hW
  have hK8 := zw_K8 hW
  obtain ⟨⟨g, hg, eg⟩, -⟩ := zw_k hW hk
  have es := hr.2.2.2 k hk
  have eh := (hr.2.2.1 r hrn).2.2.2.2.2.2
  unfold f_X7_noteIfFound
  rw [zi_rd (by omega) (by omega), Option.bind_some, zi_rd (by omega) (by omega), Option.bind_some, es.2.1, es.2.2, zo_pts' hW hr hrn hk, Option.bind_some]
  by_cases h5 : 5 ≤ zPt M k r
  · rw [if_pos h5, zi_rd (by omega) (by omega), Option.bind_some, es.1, eg, zi_rd (by omega) (by omega), Option.bind_some, eh, zo_famOf' hW hr, Option.bind_some, zbits_inv (by omega) hg]
    simp (disch := omega) only [zi_rd, zi_wr, Option.bind_some, zu_ne]
    have hHg : ∀ q, zHit M g q r k = zOf M r q := fun q => by
      cases e : zOf M r q
      · cases e2 : zHit M g q r k
        · rfl
        · have := (zHit_t.mp e2).2.2
          rw [e] at this
          cases this
      · exact zHit_t.mpr ⟨eg, h5, e⟩
    have hHn : ∀ f q, f < 2147483648 → f ≠ g → zHit M f q r k = false := fun f q hf2 hfg => by
      cases e2 : zHit M f q r k
      · rfl
      · have := (zHit_t.mp e2).1
        rw [eg, zi_inj (by omega) hf2] at this
        exact absurd this.symm hfg
    have h52 : s.1 52 g ||| zbits (fun q => zOf M r q && !(q == g)) (nF M) = zbits (fun q => (g != q) && (F g q || zHit M g q r k)) (nF M) := by
      rw [(hK g (by omega)).1, zbits_or (by omega)]
      refine zbits_congr fun q hq => ?_
      rw [hHg]
      by_cases e : g = q
      · subst e
        rw [show (g != g) = false by simp, show (g == g) = true by simp]
        cases zOf M r g <;> rfl
      · have e' : ¬ q = g := fun x => e x.symm
        rw [show (g != q) = true by simp [e], show (q == g) = false by simp [e']]
        cases F g q <;> cases zOf M r q <;> rfl
    have h53 : s.1 53 g ||| zbits (fun q => zOf M r q && !(q == g)) (nF M) = zbits (fun q => (g != q) && ((F g q || zHit M g q r k) || (F q g || zHit M q g r k))) (nF M) := by
      rw [(hK g (by omega)).2, zbits_or (by omega)]
      refine zbits_congr fun q hq => ?_
      rw [hHg]
      by_cases e : g = q
      · subst e
        rw [show (g != g) = false by simp, show (g == g) = true by simp]
        cases zOf M r g <;> rfl
      · have e' : ¬ q = g := fun x => e x.symm
        rw [hHn q g (by omega) e', show (g != q) = true by simp [e], show (q == g) = false by simp [e']]
        cases F g q <;> cases F q g <;> cases zOf M r q <;> rfl
    rw [h52, h53]
    unfold l_X7_noteIfFound_72
    refine zs_up (fun j a => a.1 = zi j ∧ zfkk s a.2 ∧ ∀ f, f < 24 → a.2.1 52 f = zbits (fun q => (f != q) && (F f q || zHit M f q r k)) (nF M) ∧ a.2.1 53 f = if f < j ∨ f = g then zbits (fun q => (f != q) && ((F f q || zHit M f q r k) || (F q f || zHit M q f r k))) (nF M) else s.1 53 f) 24 ?_ yb_N 0 _ (Nat.zero_le _) (by decide) ⟨rfl, zfkk_w (zfkk_w (zfkk_refl s) (Or.inl rfl)) (Or.inr rfl), fun f hf => ⟨?_, ?_⟩⟩
    · rintro j ⟨x, u⟩ rc hj ⟨i1, i2, i3⟩ hn
      dsimp only at i1 i2 i3
      subst i1
      show zs_P (f_X7_noteIfFound_72 (fun x5 s => rc (x5, s)) _ _ (zi j) u) _
      unfold f_X7_noteIfFound_72 j_X7_noteIfFound_103
      rcases Nat.lt_or_ge j 24 with hlt | hge
      · rw [show (24 : Int32) = zi 24 from rfl, if_neg (by rw [zi_le (by omega) (by omega)]; omega), zbits_at (by omega) (by omega), zi_rd (by omega) (by omega), Option.bind_some, zi_wr (by omega) (by omega), Option.bind_some, zi_succ]
        by_cases c : j < nF M ∧ (zOf M r j && !(j == g)) = true
        · rw [if_pos (show (if j < nF M ∧ (zOf M r j && !(j == g)) = true then (1 : Int32) else 0) = 1 from if_pos c)]
          have hjg : ¬ j = g := by
            intro e
            rw [e] at c
            simp at c
          have hof : zOf M r j = true := by
            have := c.2
            simp only [Bool.and_eq_true] at this
            exact this.1
          refine hn hlt _ ⟨rfl, zfkk_w i2 (Or.inr rfl), fun f hf => ⟨?_, ?_⟩⟩
          · rw [zu_ne (by decide)]
            exact (i3 f hf).1
          · rw [zu_id]
            by_cases e : f = j
            · subst e
              rw [if_pos rfl, if_pos (Or.inl (by omega)), (i3 f hf).2, if_neg (by omega), (hK f hf).2]
              refine (zbits_set (by omega) hg fun q hq => ?_).symm
              by_cases e2 : q = g
              · subst e2
                rw [hHg, hof]
                simp [hjg]
              · rw [hHn f q (by omega) hjg, hHn q f (by omega) e2]
                simp [e2]
            · rw [if_neg e, (i3 f hf).2]
              by_cases e2 : f < j ∨ f = g
              · rw [if_pos e2, if_pos (by omega)]
              · rw [if_neg e2, if_neg (by omega)]
        · rw [if_neg (show ¬ (if j < nF M ∧ (zOf M r j && !(j == g)) = true then (1 : Int32) else 0) = 1 by rw [if_neg c]; decide)]
          refine hn hlt _ ⟨rfl, i2, fun f hf => ⟨(i3 f hf).1, ?_⟩⟩
          rw [(i3 f hf).2]
          by_cases e : f = j
          · subst e
            rw [if_pos (show f < f + 1 ∨ f = g from Or.inl (by omega))]
            by_cases e2 : f = g
            · rw [if_pos (Or.inr e2)]
            · rw [if_neg (by omega), (hK f hf).2]
              refine zbits_congr fun q hq => ?_
              by_cases e3 : q = g
              · subst e3
                have hz : zOf M r f = false := by
                  cases e4 : zOf M r f
                  · rfl
                  · exact absurd ⟨zOf_lt hW (by omega) e4, by rw [e4]; simp [e2]⟩ c
                rw [hHn f q (by omega) e2, hHg, hz]
                simp
              · rw [hHn f q (by omega) e2, hHn q f (by omega) e3]
                simp
          · by_cases e2 : f < j ∨ f = g
            · rw [if_pos e2, if_pos (by omega)]
            · rw [if_neg e2, if_neg (by omega)]
      · have hkl := Nat.le_antisymm hj hge
        subst hkl
        rw [if_pos (by decide)]
        refine zs_ret ⟨i2, fun f hf => ⟨(i3 f hf).1, ?_⟩⟩
        rw [(i3 f hf).2, if_pos (Or.inl hf)]
    · rw [zu_ne (by decide), zu_id]
      by_cases e : f = g
      · rw [if_pos e, e]
      · rw [if_neg e, (hK f hf).1]
        refine zbits_congr fun q hq => ?_
        rw [hHn f q (by omega) e]
        simp
    · rw [zu_id]
      by_cases e : f = g
      · rw [if_pos e, if_pos (Or.inr e), e]
      · rw [if_neg e, zu_ne (by decide), if_neg (by omega)]
  · rw [if_neg h5]
    have hno : ∀ f q, zHit M f q r k = false := fun f q => by
      cases e : zHit M f q r k
      · rfl
      · exact absurd (zHit_t.mp e).2.1 h5
    refine zs_ret ⟨zfkk_refl s, fun f hf => ?_⟩
    simp only [hno, Bool.or_false]
    exact hK f hf
theorem zo_note {M s : yb_S} {F : Nat → Nat → Bool} (hW : zW M) (hr : zRr s M) (hK : zKt F (nF M) s) {r : Nat} (hrn : r < nR M) : zs_P (f_X7_noteFinding (zi r) s) (fun u => zfkk s u ∧ zKt (fun f q => F f q || zany (fun k => zHit M f q r k) (nK M)) (nF M) u) := by
  have hK8 := zw_K8 hW
  unfold f_X7_noteFinding l_X7_noteFinding_2
  refine zs_up (fun k a => a.1 = zi k ∧ zfkk s a.2 ∧ zKt (fun f q => F f q || zany (fun k => zHit M f q r k) k) (nF M) a.2) (nK M) ?_ yb_N 0 _ (Nat.zero_le _) (by unfold yb_N; omega) ⟨rfl, zfkk_refl s, fun f hf => ?_⟩
  · rintro k ⟨x, u⟩ rc hk ⟨i1, i2, i3⟩ hn
    dsimp only at i1 i2 i3
    subst i1
    have hru := zRr_k i2 hr
    show zs_P (f_X7_noteFinding_2 (fun x5 s => rc (x5, s)) _ (zi k) u) _
    unfold f_X7_noteFinding_2
    rw [hru.2.1, zw_K hW]
    rcases Nat.lt_or_ge k (nK M) with hlt | hge
    · rw [if_neg (by rw [zi_le (by omega) (by omega)]; omega)]
      refine zs_bind (zo_note1 hW hru i3 hrn hlt) fun v hv => ?_
      rw [zi_succ]
      refine hn hlt _ ⟨rfl, zfkk_trans i2 hv.1, fun f hf => ?_⟩
      have e : ∀ f q, (F f q || zany (fun k => zHit M f q r k) (k + 1)) = ((F f q || zany (fun k => zHit M f q r k) k) || zHit M f q r k) := fun f q => (Bool.or_assoc _ _ _).symm
      simp only [e]
      exact hv.2 f hf
    · have hkl := Nat.le_antisymm hk hge
      subst hkl
      rw [if_pos (Int32.le_refl _)]
      exact zs_ret ⟨i2, i3⟩
  · have := hK f hf
    simp only [zany, Bool.or_false]
    exact this
/-- all of the relation but who is kin -/
def zR0 (o M : yb_S) : Prop := zRt o M ∧ zRc o M ∧ zRh o M ∧ zRf o M ∧ zRa o M ∧ zRr o M ∧ zRl o M ∧ zRn o M ∧ zRx o M ∧ zRp o M ∧ zRb o M ∧ zRg o M
theorem zR_0 {o M : yb_S} (h : zR o M) : zR0 o M := ⟨h.1, h.2.1, h.2.2.1, h.2.2.2.1, h.2.2.2.2.1, h.2.2.2.2.2.1, h.2.2.2.2.2.2.2⟩
theorem zR_of {o M : yb_S} (h : zR0 o M) (k : zKt (zFinds M) (nF M) o) : zR o M := ⟨h.1, h.2.1, h.2.2.1, h.2.2.2.1, h.2.2.2.2.1, h.2.2.2.2.2.1, k, h.2.2.2.2.2.2⟩
theorem zKt_of {M m s : yb_S} (hA : zA M m s) : zKt (zFinds M) (nF M) s := hA.1.2.2.2.2.2.2.1
theorem zR0_k {s t M : yb_S} (h : zfkk s t) (h0 : zR0 (zO s) M) : zR0 (zO t) M := by
  have c : ∀ id k, id ≠ 52 ∧ id ≠ 53 → (zO t).1 id k = (zO s).1 id k := fun id k q => by
    show (if zeO id k then t.1 id k else 0) = (if zeO id k then s.1 id k else 0)
    rw [h.1 id q.1 q.2]
  have c2 : (zO t).2 = (zO s).2 := by
    show (fun id k => if id < 176 then t.2 id k else 0) = (fun id k => if id < 176 then s.2 id k else 0)
    rw [h.2]
  unfold zR0 at h0 ⊢
  simp (disch := omega) only [zRt, zRc, zRh, zRf, zRa, zRr, zRl, zRn, zRx, zRp, zRb, zRg, c, c2] at h0 ⊢
  exact h0
theorem zKt_O {F : Nat → Nat → Bool} {n : Nat} {s : yb_S} (h : zKt F n s) : zKt F n (zO s) := h
theorem zHm_k {s t : yb_S} (h : zfkk s t) : zHm t = zHm s := by
  apply Prod.ext
  · funext a
    exact h.1 (a + 176) (by omega) (by omega)
  · funext a
    show t.2 (a + 176) = s.2 (a + 176)
    rw [h.2]
theorem zk_record {o M : yb_S} {n b : Nat} {x y u v w : Int32} (hn : n = nR M) (h8 : n < 60) (hb : b ≤ 120) (hw : w = -1 ∨ ∃ f, f < nF M ∧ w = zi f) (hW : zW M) (hR : zR o M) : zW (yb_pI (yb_pI (yb_pI (yb_pI (yb_pI (yb_pI (yb_pI (yb_pI M 207 n x) 208 n y) 209 n (zi b)) 210 n u) 211 n v) 212 n w) 213 n (zi n)) 176 36 (zi (n + 1))) ∧ zR0 (yb_pI (yb_pI (yb_pI (yb_pI (yb_pI (yb_pI (yb_pI (yb_pI o 42 n x) 43 n y) 44 n (zi b)) 45 n u) 46 n v) 47 n w) 48 n (zi n)) 41 0 (zi (n + 1))) (yb_pI (yb_pI (yb_pI (yb_pI (yb_pI (yb_pI (yb_pI (yb_pI M 207 n x) 208 n y) 209 n (zi b)) 210 n u) 211 n v) 212 n w) 213 n (zi n)) 176 36 (zi (n + 1))) := by
  obtain ⟨w1, w2, w3, w4, w5, w6, w7, w8, w9, w10, w11, w12, w13, w14⟩ := hW
  obtain ⟨r1, r2, r3, r4, r5, r6, r7, r8, r9, r10, r11, r12, r13⟩ := hR
  have bH : (M.1 176 15).toNatClampNeg ≤ 24 := w1.2.2.2.1
  have bF : (M.1 176 27).toNatClampNeg ≤ 24 := w1.2.2.2.2.2.1
  have bX : (M.1 176 44).toNatClampNeg ≤ 500 := w2.2.1
  have bS : (M.1 176 54).toNatClampNeg ≤ 10 := w2.2.2.2.1
  have bD : (M.1 176 7).toNatClampNeg ≤ 200 := w2.2.2.2.2.2.1
  refine ⟨⟨?_, ?_, ?_, ?_, ?_, ?_, ?_, ?_, ?_, ?_, ?_, ?_, ?_, ?_⟩, ?_, ?_, ?_, ?_, ?_, ?_, ?_, ?_, ?_, ?_, ?_, ?_⟩
  · (have hh := w1; simp (disch := omega) only [zRt, zRc, zRh, zRf, zRa, zRr, zRk, zRl, zRn, zRx, zRp, zRb, zRg, zW1, zW2, zWt, zWh, zWf, zWn, zWu, zWa, zWr, zWx, zWs, zWb, zWp, zWg, nT, nH, nF, nR, nK, nX, nS, nD, nB, nG, zTown, zPup, zHeads, zRooms, zThere, zHall, zLodg, zLodger, zOf, zHit, zFinds, zKin, zDayH, zi_tn, zu_ne, zu_nef, zu_eq, zu_id, zu_rl, zu_rdL, zu_neL, zu_idL, ↓reduceIte, Nat.reduceEqDiff] at hh hn ⊢; grind)
  · simpa (disch := omega) only [zRt, zRc, zRh, zRf, zRa, zRr, zRk, zRl, zRn, zRx, zRp, zRb, zRg, zW1, zW2, zWt, zWh, zWf, zWn, zWu, zWa, zWr, zWx, zWs, zWb, zWp, zWg, nT, nH, nF, nR, nK, nX, nS, nD, nB, nG, zTown, zPup, zHeads, zRooms, zThere, zHall, zLodg, zLodger, zOf, zHit, zFinds, zKin, zDayH, zu_ne, zu_nef, zu_eq, zu_id, zu_rl, zu_rdL, zu_neL, zu_idL, ↓reduceIte, Nat.reduceEqDiff] using w2
  · simpa (disch := omega) only [zRt, zRc, zRh, zRf, zRa, zRr, zRk, zRl, zRn, zRx, zRp, zRb, zRg, zW1, zW2, zWt, zWh, zWf, zWn, zWu, zWa, zWr, zWx, zWs, zWb, zWp, zWg, nT, nH, nF, nR, nK, nX, nS, nD, nB, nG, zTown, zPup, zHeads, zRooms, zThere, zHall, zLodg, zLodger, zOf, zHit, zFinds, zKin, zDayH, zu_ne, zu_nef, zu_eq, zu_id, zu_rl, zu_rdL, zu_neL, zu_idL, ↓reduceIte, Nat.reduceEqDiff] using w3
  · simpa (disch := omega) only [zRt, zRc, zRh, zRf, zRa, zRr, zRk, zRl, zRn, zRx, zRp, zRb, zRg, zW1, zW2, zWt, zWh, zWf, zWn, zWu, zWa, zWr, zWx, zWs, zWb, zWp, zWg, nT, nH, nF, nR, nK, nX, nS, nD, nB, nG, zTown, zPup, zHeads, zRooms, zThere, zHall, zLodg, zLodger, zOf, zHit, zFinds, zKin, zDayH, zu_ne, zu_nef, zu_eq, zu_id, zu_rl, zu_rdL, zu_neL, zu_idL, ↓reduceIte, Nat.reduceEqDiff] using w4
  · simpa (disch := omega) only [zRt, zRc, zRh, zRf, zRa, zRr, zRk, zRl, zRn, zRx, zRp, zRb, zRg, zW1, zW2, zWt, zWh, zWf, zWn, zWu, zWa, zWr, zWx, zWs, zWb, zWp, zWg, nT, nH, nF, nR, nK, nX, nS, nD, nB, nG, zTown, zPup, zHeads, zRooms, zThere, zHall, zLodg, zLodger, zOf, zHit, zFinds, zKin, zDayH, zu_ne, zu_nef, zu_eq, zu_id, zu_rl, zu_rdL, zu_neL, zu_idL, ↓reduceIte, Nat.reduceEqDiff] using w5
  · simpa (disch := omega) only [zRt, zRc, zRh, zRf, zRa, zRr, zRk, zRl, zRn, zRx, zRp, zRb, zRg, zW1, zW2, zWt, zWh, zWf, zWn, zWu, zWa, zWr, zWx, zWs, zWb, zWp, zWg, nT, nH, nF, nR, nK, nX, nS, nD, nB, nG, zTown, zPup, zHeads, zRooms, zThere, zHall, zLodg, zLodger, zOf, zHit, zFinds, zKin, zDayH, zu_ne, zu_nef, zu_eq, zu_id, zu_rl, zu_rdL, zu_neL, zu_idL, ↓reduceIte, Nat.reduceEqDiff] using w6
  · simpa (disch := omega) only [zRt, zRc, zRh, zRf, zRa, zRr, zRk, zRl, zRn, zRx, zRp, zRb, zRg, zW1, zW2, zWt, zWh, zWf, zWn, zWu, zWa, zWr, zWx, zWs, zWb, zWp, zWg, nT, nH, nF, nR, nK, nX, nS, nD, nB, nG, zTown, zPup, zHeads, zRooms, zThere, zHall, zLodg, zLodger, zOf, zHit, zFinds, zKin, zDayH, zu_ne, zu_nef, zu_eq, zu_id, zu_rl, zu_rdL, zu_neL, zu_idL, ↓reduceIte, Nat.reduceEqDiff] using w7
  · simpa (disch := omega) only [zRt, zRc, zRh, zRf, zRa, zRr, zRk, zRl, zRn, zRx, zRp, zRb, zRg, zW1, zW2, zWt, zWh, zWf, zWn, zWu, zWa, zWr, zWx, zWs, zWb, zWp, zWg, nT, nH, nF, nR, nK, nX, nS, nD, nB, nG, zTown, zPup, zHeads, zRooms, zThere, zHall, zLodg, zLodger, zOf, zHit, zFinds, zKin, zDayH, zu_ne, zu_nef, zu_eq, zu_id, zu_rl, zu_rdL, zu_neL, zu_idL, ↓reduceIte, Nat.reduceEqDiff] using w8
  · refine ⟨fun r hr => ?_, fun k hk => ?_⟩
    · have hh := w9.1 r
      by_cases e : r = n
      · subst e
        simp (disch := omega) only [nT, nH, nF, nR, nK, nD, zi_tn, zu_ne, zu_nef, zu_eq, zu_id, zu_rl, ↓reduceIte, Nat.reduceEqDiff]
        exact ⟨⟨b, hb, rfl⟩, by simpa (disch := omega) only [nF] using hw, ⟨r, by omega, rfl⟩⟩
      · simp (disch := omega) only [e, nT, nH, nF, nR, nK, nD, zi_tn, zu_ne, zu_nef, zu_eq, zu_id, zu_rl, ↓reduceIte, Nat.reduceEqDiff] at hh hr hn ⊢
        obtain ⟨q1, q2, q, hq, q3⟩ := hh (by omega)
        exact ⟨q1, q2, q, by omega, q3⟩
    · have hh := w9.2 k
      simp (disch := omega) only [nT, nH, nF, nR, nK, nD, zi_tn, zu_ne, zu_nef, zu_eq, zu_id, zu_rl, ↓reduceIte, Nat.reduceEqDiff] at hh hk ⊢
      exact hh hk
  · simpa (disch := omega) only [zRt, zRc, zRh, zRf, zRa, zRr, zRk, zRl, zRn, zRx, zRp, zRb, zRg, zW1, zW2, zWt, zWh, zWf, zWn, zWu, zWa, zWr, zWx, zWs, zWb, zWp, zWg, nT, nH, nF, nR, nK, nX, nS, nD, nB, nG, zTown, zPup, zHeads, zRooms, zThere, zHall, zLodg, zLodger, zOf, zHit, zFinds, zKin, zDayH, zu_ne, zu_nef, zu_eq, zu_id, zu_rl, zu_rdL, zu_neL, zu_idL, ↓reduceIte, Nat.reduceEqDiff] using w10
  · simpa (disch := omega) only [zRt, zRc, zRh, zRf, zRa, zRr, zRk, zRl, zRn, zRx, zRp, zRb, zRg, zW1, zW2, zWt, zWh, zWf, zWn, zWu, zWa, zWr, zWx, zWs, zWb, zWp, zWg, nT, nH, nF, nR, nK, nX, nS, nD, nB, nG, zTown, zPup, zHeads, zRooms, zThere, zHall, zLodg, zLodger, zOf, zHit, zFinds, zKin, zDayH, zu_ne, zu_nef, zu_eq, zu_id, zu_rl, zu_rdL, zu_neL, zu_idL, ↓reduceIte, Nat.reduceEqDiff] using w11
  · simpa (disch := omega) only [zRt, zRc, zRh, zRf, zRa, zRr, zRk, zRl, zRn, zRx, zRp, zRb, zRg, zW1, zW2, zWt, zWh, zWf, zWn, zWu, zWa, zWr, zWx, zWs, zWb, zWp, zWg, nT, nH, nF, nR, nK, nX, nS, nD, nB, nG, zTown, zPup, zHeads, zRooms, zThere, zHall, zLodg, zLodger, zOf, zHit, zFinds, zKin, zDayH, zu_ne, zu_nef, zu_eq, zu_id, zu_rl, zu_rdL, zu_neL, zu_idL, ↓reduceIte, Nat.reduceEqDiff] using w12
  · simpa (disch := omega) only [zRt, zRc, zRh, zRf, zRa, zRr, zRk, zRl, zRn, zRx, zRp, zRb, zRg, zW1, zW2, zWt, zWh, zWf, zWn, zWu, zWa, zWr, zWx, zWs, zWb, zWp, zWg, nT, nH, nF, nR, nK, nX, nS, nD, nB, nG, zTown, zPup, zHeads, zRooms, zThere, zHall, zLodg, zLodger, zOf, zHit, zFinds, zKin, zDayH, zu_ne, zu_nef, zu_eq, zu_id, zu_rl, zu_rdL, zu_neL, zu_idL, ↓reduceIte, Nat.reduceEqDiff] using w13
  · simpa (disch := omega) only [zRt, zRc, zRh, zRf, zRa, zRr, zRk, zRl, zRn, zRx, zRp, zRb, zRg, zW1, zW2, zWt, zWh, zWf, zWn, zWu, zWa, zWr, zWx, zWs, zWb, zWp, zWg, nT, nH, nF, nR, nK, nX, nS, nD, nB, nG, zTown, zPup, zHeads, zRooms, zThere, zHall, zLodg, zLodger, zOf, zHit, zFinds, zKin, zDayH, zu_ne, zu_nef, zu_eq, zu_id, zu_rl, zu_rdL, zu_neL, zu_idL, ↓reduceIte, Nat.reduceEqDiff] using w14
  · simpa (disch := omega) only [zRt, zRc, zRh, zRf, zRa, zRr, zRk, zRl, zRn, zRx, zRp, zRb, zRg, zW1, zW2, zWt, zWh, zWf, zWn, zWu, zWa, zWr, zWx, zWs, zWb, zWp, zWg, nT, nH, nF, nR, nK, nX, nS, nD, nB, nG, zTown, zPup, zHeads, zRooms, zThere, zHall, zLodg, zLodger, zOf, zHit, zFinds, zKin, zDayH, zu_ne, zu_nef, zu_eq, zu_id, zu_rl, zu_rdL, zu_neL, zu_idL, ↓reduceIte, Nat.reduceEqDiff] using r1
  · simpa (disch := omega) only [zRt, zRc, zRh, zRf, zRa, zRr, zRk, zRl, zRn, zRx, zRp, zRb, zRg, zW1, zW2, zWt, zWh, zWf, zWn, zWu, zWa, zWr, zWx, zWs, zWb, zWp, zWg, nT, nH, nF, nR, nK, nX, nS, nD, nB, nG, zTown, zPup, zHeads, zRooms, zThere, zHall, zLodg, zLodger, zOf, zHit, zFinds, zKin, zDayH, zu_ne, zu_nef, zu_eq, zu_id, zu_rl, zu_rdL, zu_neL, zu_idL, ↓reduceIte, Nat.reduceEqDiff] using r2
  · simpa (disch := omega) only [zRt, zRc, zRh, zRf, zRa, zRr, zRk, zRl, zRn, zRx, zRp, zRb, zRg, zW1, zW2, zWt, zWh, zWf, zWn, zWu, zWa, zWr, zWx, zWs, zWb, zWp, zWg, nT, nH, nF, nR, nK, nX, nS, nD, nB, nG, zTown, zPup, zHeads, zRooms, zThere, zHall, zLodg, zLodger, zOf, zHit, zFinds, zKin, zDayH, zu_ne, zu_nef, zu_eq, zu_id, zu_rl, zu_rdL, zu_neL, zu_idL, ↓reduceIte, Nat.reduceEqDiff] using r3
  · simpa (disch := omega) only [zRt, zRc, zRh, zRf, zRa, zRr, zRk, zRl, zRn, zRx, zRp, zRb, zRg, zW1, zW2, zWt, zWh, zWf, zWn, zWu, zWa, zWr, zWx, zWs, zWb, zWp, zWg, nT, nH, nF, nR, nK, nX, nS, nD, nB, nG, zTown, zPup, zHeads, zRooms, zThere, zHall, zLodg, zLodger, zOf, zHit, zFinds, zKin, zDayH, zu_ne, zu_nef, zu_eq, zu_id, zu_rl, zu_rdL, zu_neL, zu_idL, ↓reduceIte, Nat.reduceEqDiff] using r4
  · simpa (disch := omega) only [zRt, zRc, zRh, zRf, zRa, zRr, zRk, zRl, zRn, zRx, zRp, zRb, zRg, zW1, zW2, zWt, zWh, zWf, zWn, zWu, zWa, zWr, zWx, zWs, zWb, zWp, zWg, nT, nH, nF, nR, nK, nX, nS, nD, nB, nG, zTown, zPup, zHeads, zRooms, zThere, zHall, zLodg, zLodger, zOf, zHit, zFinds, zKin, zDayH, zu_ne, zu_nef, zu_eq, zu_id, zu_rl, zu_rdL, zu_neL, zu_idL, ↓reduceIte, Nat.reduceEqDiff] using r5
  · refine ⟨by simp (disch := omega) only [zu_ne, zu_eq, zu_id, ↓reduceIte, Nat.reduceEqDiff], by simp (disch := omega) only [zu_ne, zu_eq, zu_id, ↓reduceIte, Nat.reduceEqDiff]; exact r6.2.1, fun r hr => ?_, fun k hk => ?_⟩
    · have hh := r6.2.2.1 r
      by_cases e : r = n
      · subst e
        simp (disch := omega) only [nT, nH, nF, nR, nK, nD, zi_tn, zu_ne, zu_nef, zu_eq, zu_id, zu_rl, ↓reduceIte, Nat.reduceEqDiff]
        exact ⟨trivial, trivial, trivial, trivial, trivial, trivial, trivial⟩
      · simp (disch := omega) only [e, nT, nH, nF, nR, nK, nD, zi_tn, zu_ne, zu_nef, zu_eq, zu_id, zu_rl, ↓reduceIte, Nat.reduceEqDiff] at hh hr hn ⊢
        exact hh (by omega)
    · have hh := r6.2.2.2 k
      simp (disch := omega) only [nT, nH, nF, nR, nK, nD, zi_tn, zu_ne, zu_nef, zu_eq, zu_id, zu_rl, ↓reduceIte, Nat.reduceEqDiff] at hh hk ⊢
      exact hh hk
  · simpa (disch := omega) only [zRt, zRc, zRh, zRf, zRa, zRr, zRk, zRl, zRn, zRx, zRp, zRb, zRg, zW1, zW2, zWt, zWh, zWf, zWn, zWu, zWa, zWr, zWx, zWs, zWb, zWp, zWg, nT, nH, nF, nR, nK, nX, nS, nD, nB, nG, zTown, zPup, zHeads, zRooms, zThere, zHall, zLodg, zLodger, zOf, zHit, zFinds, zKin, zDayH, zu_ne, zu_nef, zu_eq, zu_id, zu_rl, zu_rdL, zu_neL, zu_idL, ↓reduceIte, Nat.reduceEqDiff] using r8
  · simpa (disch := omega) only [zRt, zRc, zRh, zRf, zRa, zRr, zRk, zRl, zRn, zRx, zRp, zRb, zRg, zW1, zW2, zWt, zWh, zWf, zWn, zWu, zWa, zWr, zWx, zWs, zWb, zWp, zWg, nT, nH, nF, nR, nK, nX, nS, nD, nB, nG, zTown, zPup, zHeads, zRooms, zThere, zHall, zLodg, zLodger, zOf, zHit, zFinds, zKin, zDayH, zu_ne, zu_nef, zu_eq, zu_id, zu_rl, zu_rdL, zu_neL, zu_idL, ↓reduceIte, Nat.reduceEqDiff] using r9
  · simpa (disch := omega) only [zRt, zRc, zRh, zRf, zRa, zRr, zRk, zRl, zRn, zRx, zRp, zRb, zRg, zW1, zW2, zWt, zWh, zWf, zWn, zWu, zWa, zWr, zWx, zWs, zWb, zWp, zWg, nT, nH, nF, nR, nK, nX, nS, nD, nB, nG, zTown, zPup, zHeads, zRooms, zThere, zHall, zLodg, zLodger, zOf, zHit, zFinds, zKin, zDayH, zu_ne, zu_nef, zu_eq, zu_id, zu_rl, zu_rdL, zu_neL, zu_idL, ↓reduceIte, Nat.reduceEqDiff] using r10
  · simpa (disch := omega) only [zRt, zRc, zRh, zRf, zRa, zRr, zRk, zRl, zRn, zRx, zRp, zRb, zRg, zW1, zW2, zWt, zWh, zWf, zWn, zWu, zWa, zWr, zWx, zWs, zWb, zWp, zWg, nT, nH, nF, nR, nK, nX, nS, nD, nB, nG, zTown, zPup, zHeads, zRooms, zThere, zHall, zLodg, zLodger, zOf, zHit, zFinds, zKin, zDayH, zu_ne, zu_nef, zu_eq, zu_id, zu_rl, zu_rdL, zu_neL, zu_idL, ↓reduceIte, Nat.reduceEqDiff] using r11
  · simpa (disch := omega) only [zRt, zRc, zRh, zRf, zRa, zRr, zRk, zRl, zRn, zRx, zRp, zRb, zRg, zW1, zW2, zWt, zWh, zWf, zWn, zWu, zWa, zWr, zWx, zWs, zWb, zWp, zWg, nT, nH, nF, nR, nK, nX, nS, nD, nB, nG, zTown, zPup, zHeads, zRooms, zThere, zHall, zLodg, zLodger, zOf, zHit, zFinds, zKin, zDayH, zu_ne, zu_nef, zu_eq, zu_id, zu_rl, zu_rdL, zu_neL, zu_idL, ↓reduceIte, Nat.reduceEqDiff] using r12
  · simpa (disch := omega) only [zRt, zRc, zRh, zRf, zRa, zRr, zRk, zRl, zRn, zRx, zRp, zRb, zRg, zW1, zW2, zWt, zWh, zWf, zWn, zWu, zWa, zWr, zWx, zWs, zWb, zWp, zWg, nT, nH, nF, nR, nK, nX, nS, nD, nB, nG, zTown, zPup, zHeads, zRooms, zThere, zHall, zLodg, zLodger, zOf, zHit, zFinds, zKin, zDayH, zu_ne, zu_nef, zu_eq, zu_id, zu_rl, zu_rdL, zu_neL, zu_idL, ↓reduceIte, Nat.reduceEqDiff] using r13
theorem zk_seek {o M : yb_S} {n b g : Nat} {x : Int32} (hn : n = nK M) (h8 : n < 40) (hb : b ≤ 120) (hg : g < nF M) (hW : zW M) (hR : zR o M) : zW (yb_pI (yb_pI (yb_pI (yb_pI M 214 n (zi g)) 215 n x) 216 n (zi b)) 176 40 (zi (n + 1))) ∧ zR0 (yb_pI (yb_pI (yb_pI (yb_pI o 49 n (zi g)) 50 n x) 51 n (zi b)) 41 8 (zi (n + 1))) (yb_pI (yb_pI (yb_pI (yb_pI M 214 n (zi g)) 215 n x) 216 n (zi b)) 176 40 (zi (n + 1))) := by
  obtain ⟨w1, w2, w3, w4, w5, w6, w7, w8, w9, w10, w11, w12, w13, w14⟩ := hW
  obtain ⟨r1, r2, r3, r4, r5, r6, r7, r8, r9, r10, r11, r12, r13⟩ := hR
  have bH : (M.1 176 15).toNatClampNeg ≤ 24 := w1.2.2.2.1
  have bF : (M.1 176 27).toNatClampNeg ≤ 24 := w1.2.2.2.2.2.1
  have bX : (M.1 176 44).toNatClampNeg ≤ 500 := w2.2.1
  have bS : (M.1 176 54).toNatClampNeg ≤ 10 := w2.2.2.2.1
  have bD : (M.1 176 7).toNatClampNeg ≤ 200 := w2.2.2.2.2.2.1
  refine ⟨⟨?_, ?_, ?_, ?_, ?_, ?_, ?_, ?_, ?_, ?_, ?_, ?_, ?_, ?_⟩, ?_, ?_, ?_, ?_, ?_, ?_, ?_, ?_, ?_, ?_, ?_, ?_⟩
  · (have hh := w1; simp (disch := omega) only [zRt, zRc, zRh, zRf, zRa, zRr, zRk, zRl, zRn, zRx, zRp, zRb, zRg, zW1, zW2, zWt, zWh, zWf, zWn, zWu, zWa, zWr, zWx, zWs, zWb, zWp, zWg, nT, nH, nF, nR, nK, nX, nS, nD, nB, nG, zTown, zPup, zHeads, zRooms, zThere, zHall, zLodg, zLodger, zOf, zHit, zFinds, zKin, zDayH, zi_tn, zu_ne, zu_nef, zu_eq, zu_id, zu_rl, zu_rdL, zu_neL, zu_idL, ↓reduceIte, Nat.reduceEqDiff] at hh hn ⊢; grind)
  · simpa (disch := omega) only [zRt, zRc, zRh, zRf, zRa, zRr, zRk, zRl, zRn, zRx, zRp, zRb, zRg, zW1, zW2, zWt, zWh, zWf, zWn, zWu, zWa, zWr, zWx, zWs, zWb, zWp, zWg, nT, nH, nF, nR, nK, nX, nS, nD, nB, nG, zTown, zPup, zHeads, zRooms, zThere, zHall, zLodg, zLodger, zOf, zHit, zFinds, zKin, zDayH, zu_ne, zu_nef, zu_eq, zu_id, zu_rl, zu_rdL, zu_neL, zu_idL, ↓reduceIte, Nat.reduceEqDiff] using w2
  · simpa (disch := omega) only [zRt, zRc, zRh, zRf, zRa, zRr, zRk, zRl, zRn, zRx, zRp, zRb, zRg, zW1, zW2, zWt, zWh, zWf, zWn, zWu, zWa, zWr, zWx, zWs, zWb, zWp, zWg, nT, nH, nF, nR, nK, nX, nS, nD, nB, nG, zTown, zPup, zHeads, zRooms, zThere, zHall, zLodg, zLodger, zOf, zHit, zFinds, zKin, zDayH, zu_ne, zu_nef, zu_eq, zu_id, zu_rl, zu_rdL, zu_neL, zu_idL, ↓reduceIte, Nat.reduceEqDiff] using w3
  · simpa (disch := omega) only [zRt, zRc, zRh, zRf, zRa, zRr, zRk, zRl, zRn, zRx, zRp, zRb, zRg, zW1, zW2, zWt, zWh, zWf, zWn, zWu, zWa, zWr, zWx, zWs, zWb, zWp, zWg, nT, nH, nF, nR, nK, nX, nS, nD, nB, nG, zTown, zPup, zHeads, zRooms, zThere, zHall, zLodg, zLodger, zOf, zHit, zFinds, zKin, zDayH, zu_ne, zu_nef, zu_eq, zu_id, zu_rl, zu_rdL, zu_neL, zu_idL, ↓reduceIte, Nat.reduceEqDiff] using w4
  · simpa (disch := omega) only [zRt, zRc, zRh, zRf, zRa, zRr, zRk, zRl, zRn, zRx, zRp, zRb, zRg, zW1, zW2, zWt, zWh, zWf, zWn, zWu, zWa, zWr, zWx, zWs, zWb, zWp, zWg, nT, nH, nF, nR, nK, nX, nS, nD, nB, nG, zTown, zPup, zHeads, zRooms, zThere, zHall, zLodg, zLodger, zOf, zHit, zFinds, zKin, zDayH, zu_ne, zu_nef, zu_eq, zu_id, zu_rl, zu_rdL, zu_neL, zu_idL, ↓reduceIte, Nat.reduceEqDiff] using w5
  · simpa (disch := omega) only [zRt, zRc, zRh, zRf, zRa, zRr, zRk, zRl, zRn, zRx, zRp, zRb, zRg, zW1, zW2, zWt, zWh, zWf, zWn, zWu, zWa, zWr, zWx, zWs, zWb, zWp, zWg, nT, nH, nF, nR, nK, nX, nS, nD, nB, nG, zTown, zPup, zHeads, zRooms, zThere, zHall, zLodg, zLodger, zOf, zHit, zFinds, zKin, zDayH, zu_ne, zu_nef, zu_eq, zu_id, zu_rl, zu_rdL, zu_neL, zu_idL, ↓reduceIte, Nat.reduceEqDiff] using w6
  · simpa (disch := omega) only [zRt, zRc, zRh, zRf, zRa, zRr, zRk, zRl, zRn, zRx, zRp, zRb, zRg, zW1, zW2, zWt, zWh, zWf, zWn, zWu, zWa, zWr, zWx, zWs, zWb, zWp, zWg, nT, nH, nF, nR, nK, nX, nS, nD, nB, nG, zTown, zPup, zHeads, zRooms, zThere, zHall, zLodg, zLodger, zOf, zHit, zFinds, zKin, zDayH, zu_ne, zu_nef, zu_eq, zu_id, zu_rl, zu_rdL, zu_neL, zu_idL, ↓reduceIte, Nat.reduceEqDiff] using w7
  · simpa (disch := omega) only [zRt, zRc, zRh, zRf, zRa, zRr, zRk, zRl, zRn, zRx, zRp, zRb, zRg, zW1, zW2, zWt, zWh, zWf, zWn, zWu, zWa, zWr, zWx, zWs, zWb, zWp, zWg, nT, nH, nF, nR, nK, nX, nS, nD, nB, nG, zTown, zPup, zHeads, zRooms, zThere, zHall, zLodg, zLodger, zOf, zHit, zFinds, zKin, zDayH, zu_ne, zu_nef, zu_eq, zu_id, zu_rl, zu_rdL, zu_neL, zu_idL, ↓reduceIte, Nat.reduceEqDiff] using w8
  · refine ⟨fun r hr => ?_, fun k hk => ?_⟩
    · have hh := w9.1 r
      simp (disch := omega) only [nT, nH, nF, nR, nK, nD, zi_tn, zu_ne, zu_nef, zu_eq, zu_id, zu_rl, ↓reduceIte, Nat.reduceEqDiff] at hh hr ⊢
      exact hh hr
    · have hh := w9.2 k
      by_cases e : k = n
      · subst e
        simp (disch := omega) only [nT, nH, nF, nR, nK, nD, zi_tn, zu_ne, zu_nef, zu_eq, zu_id, zu_rl, ↓reduceIte, Nat.reduceEqDiff]
        exact ⟨⟨g, by simpa (disch := omega) only [nF] using hg, rfl⟩, ⟨b, hb, rfl⟩⟩
      · simp (disch := omega) only [e, nT, nH, nF, nR, nK, nD, zi_tn, zu_ne, zu_nef, zu_eq, zu_id, zu_rl, ↓reduceIte, Nat.reduceEqDiff] at hh hk hn ⊢
        exact hh (by omega)
  · simpa (disch := omega) only [zRt, zRc, zRh, zRf, zRa, zRr, zRk, zRl, zRn, zRx, zRp, zRb, zRg, zW1, zW2, zWt, zWh, zWf, zWn, zWu, zWa, zWr, zWx, zWs, zWb, zWp, zWg, nT, nH, nF, nR, nK, nX, nS, nD, nB, nG, zTown, zPup, zHeads, zRooms, zThere, zHall, zLodg, zLodger, zOf, zHit, zFinds, zKin, zDayH, zu_ne, zu_nef, zu_eq, zu_id, zu_rl, zu_rdL, zu_neL, zu_idL, ↓reduceIte, Nat.reduceEqDiff] using w10
  · simpa (disch := omega) only [zRt, zRc, zRh, zRf, zRa, zRr, zRk, zRl, zRn, zRx, zRp, zRb, zRg, zW1, zW2, zWt, zWh, zWf, zWn, zWu, zWa, zWr, zWx, zWs, zWb, zWp, zWg, nT, nH, nF, nR, nK, nX, nS, nD, nB, nG, zTown, zPup, zHeads, zRooms, zThere, zHall, zLodg, zLodger, zOf, zHit, zFinds, zKin, zDayH, zu_ne, zu_nef, zu_eq, zu_id, zu_rl, zu_rdL, zu_neL, zu_idL, ↓reduceIte, Nat.reduceEqDiff] using w11
  · simpa (disch := omega) only [zRt, zRc, zRh, zRf, zRa, zRr, zRk, zRl, zRn, zRx, zRp, zRb, zRg, zW1, zW2, zWt, zWh, zWf, zWn, zWu, zWa, zWr, zWx, zWs, zWb, zWp, zWg, nT, nH, nF, nR, nK, nX, nS, nD, nB, nG, zTown, zPup, zHeads, zRooms, zThere, zHall, zLodg, zLodger, zOf, zHit, zFinds, zKin, zDayH, zu_ne, zu_nef, zu_eq, zu_id, zu_rl, zu_rdL, zu_neL, zu_idL, ↓reduceIte, Nat.reduceEqDiff] using w12
  · simpa (disch := omega) only [zRt, zRc, zRh, zRf, zRa, zRr, zRk, zRl, zRn, zRx, zRp, zRb, zRg, zW1, zW2, zWt, zWh, zWf, zWn, zWu, zWa, zWr, zWx, zWs, zWb, zWp, zWg, nT, nH, nF, nR, nK, nX, nS, nD, nB, nG, zTown, zPup, zHeads, zRooms, zThere, zHall, zLodg, zLodger, zOf, zHit, zFinds, zKin, zDayH, zu_ne, zu_nef, zu_eq, zu_id, zu_rl, zu_rdL, zu_neL, zu_idL, ↓reduceIte, Nat.reduceEqDiff] using w13
  · simpa (disch := omega) only [zRt, zRc, zRh, zRf, zRa, zRr, zRk, zRl, zRn, zRx, zRp, zRb, zRg, zW1, zW2, zWt, zWh, zWf, zWn, zWu, zWa, zWr, zWx, zWs, zWb, zWp, zWg, nT, nH, nF, nR, nK, nX, nS, nD, nB, nG, zTown, zPup, zHeads, zRooms, zThere, zHall, zLodg, zLodger, zOf, zHit, zFinds, zKin, zDayH, zu_ne, zu_nef, zu_eq, zu_id, zu_rl, zu_rdL, zu_neL, zu_idL, ↓reduceIte, Nat.reduceEqDiff] using w14
  · simpa (disch := omega) only [zRt, zRc, zRh, zRf, zRa, zRr, zRk, zRl, zRn, zRx, zRp, zRb, zRg, zW1, zW2, zWt, zWh, zWf, zWn, zWu, zWa, zWr, zWx, zWs, zWb, zWp, zWg, nT, nH, nF, nR, nK, nX, nS, nD, nB, nG, zTown, zPup, zHeads, zRooms, zThere, zHall, zLodg, zLodger, zOf, zHit, zFinds, zKin, zDayH, zu_ne, zu_nef, zu_eq, zu_id, zu_rl, zu_rdL, zu_neL, zu_idL, ↓reduceIte, Nat.reduceEqDiff] using r1
  · simpa (disch := omega) only [zRt, zRc, zRh, zRf, zRa, zRr, zRk, zRl, zRn, zRx, zRp, zRb, zRg, zW1, zW2, zWt, zWh, zWf, zWn, zWu, zWa, zWr, zWx, zWs, zWb, zWp, zWg, nT, nH, nF, nR, nK, nX, nS, nD, nB, nG, zTown, zPup, zHeads, zRooms, zThere, zHall, zLodg, zLodger, zOf, zHit, zFinds, zKin, zDayH, zu_ne, zu_nef, zu_eq, zu_id, zu_rl, zu_rdL, zu_neL, zu_idL, ↓reduceIte, Nat.reduceEqDiff] using r2
  · simpa (disch := omega) only [zRt, zRc, zRh, zRf, zRa, zRr, zRk, zRl, zRn, zRx, zRp, zRb, zRg, zW1, zW2, zWt, zWh, zWf, zWn, zWu, zWa, zWr, zWx, zWs, zWb, zWp, zWg, nT, nH, nF, nR, nK, nX, nS, nD, nB, nG, zTown, zPup, zHeads, zRooms, zThere, zHall, zLodg, zLodger, zOf, zHit, zFinds, zKin, zDayH, zu_ne, zu_nef, zu_eq, zu_id, zu_rl, zu_rdL, zu_neL, zu_idL, ↓reduceIte, Nat.reduceEqDiff] using r3
  · simpa (disch := omega) only [zRt, zRc, zRh, zRf, zRa, zRr, zRk, zRl, zRn, zRx, zRp, zRb, zRg, zW1, zW2, zWt, zWh, zWf, zWn, zWu, zWa, zWr, zWx, zWs, zWb, zWp, zWg, nT, nH, nF, nR, nK, nX, nS, nD, nB, nG, zTown, zPup, zHeads, zRooms, zThere, zHall, zLodg, zLodger, zOf, zHit, zFinds, zKin, zDayH, zu_ne, zu_nef, zu_eq, zu_id, zu_rl, zu_rdL, zu_neL, zu_idL, ↓reduceIte, Nat.reduceEqDiff] using r4
  · simpa (disch := omega) only [zRt, zRc, zRh, zRf, zRa, zRr, zRk, zRl, zRn, zRx, zRp, zRb, zRg, zW1, zW2, zWt, zWh, zWf, zWn, zWu, zWa, zWr, zWx, zWs, zWb, zWp, zWg, nT, nH, nF, nR, nK, nX, nS, nD, nB, nG, zTown, zPup, zHeads, zRooms, zThere, zHall, zLodg, zLodger, zOf, zHit, zFinds, zKin, zDayH, zu_ne, zu_nef, zu_eq, zu_id, zu_rl, zu_rdL, zu_neL, zu_idL, ↓reduceIte, Nat.reduceEqDiff] using r5
  · refine ⟨by simp (disch := omega) only [zu_ne, zu_eq, zu_id, ↓reduceIte, Nat.reduceEqDiff]; exact r6.1, by simp (disch := omega) only [zu_ne, zu_eq, zu_id, ↓reduceIte, Nat.reduceEqDiff], fun r hr => ?_, fun k hk => ?_⟩
    · have hh := r6.2.2.1 r
      simp (disch := omega) only [nT, nH, nF, nR, nK, nD, zi_tn, zu_ne, zu_nef, zu_eq, zu_id, zu_rl, ↓reduceIte, Nat.reduceEqDiff] at hh hr ⊢
      exact hh hr
    · have hh := r6.2.2.2 k
      by_cases e : k = n
      · subst e
        simp (disch := omega) only [nT, nH, nF, nR, nK, nD, zi_tn, zu_ne, zu_nef, zu_eq, zu_id, zu_rl, ↓reduceIte, Nat.reduceEqDiff]
        exact ⟨trivial, trivial, trivial⟩
      · simp (disch := omega) only [e, nT, nH, nF, nR, nK, nD, zi_tn, zu_ne, zu_nef, zu_eq, zu_id, zu_rl, ↓reduceIte, Nat.reduceEqDiff] at hh hk hn ⊢
        exact hh (by omega)
  · simpa (disch := omega) only [zRt, zRc, zRh, zRf, zRa, zRr, zRk, zRl, zRn, zRx, zRp, zRb, zRg, zW1, zW2, zWt, zWh, zWf, zWn, zWu, zWa, zWr, zWx, zWs, zWb, zWp, zWg, nT, nH, nF, nR, nK, nX, nS, nD, nB, nG, zTown, zPup, zHeads, zRooms, zThere, zHall, zLodg, zLodger, zOf, zHit, zFinds, zKin, zDayH, zu_ne, zu_nef, zu_eq, zu_id, zu_rl, zu_rdL, zu_neL, zu_idL, ↓reduceIte, Nat.reduceEqDiff] using r8
  · simpa (disch := omega) only [zRt, zRc, zRh, zRf, zRa, zRr, zRk, zRl, zRn, zRx, zRp, zRb, zRg, zW1, zW2, zWt, zWh, zWf, zWn, zWu, zWa, zWr, zWx, zWs, zWb, zWp, zWg, nT, nH, nF, nR, nK, nX, nS, nD, nB, nG, zTown, zPup, zHeads, zRooms, zThere, zHall, zLodg, zLodger, zOf, zHit, zFinds, zKin, zDayH, zu_ne, zu_nef, zu_eq, zu_id, zu_rl, zu_rdL, zu_neL, zu_idL, ↓reduceIte, Nat.reduceEqDiff] using r9
  · simpa (disch := omega) only [zRt, zRc, zRh, zRf, zRa, zRr, zRk, zRl, zRn, zRx, zRp, zRb, zRg, zW1, zW2, zWt, zWh, zWf, zWn, zWu, zWa, zWr, zWx, zWs, zWb, zWp, zWg, nT, nH, nF, nR, nK, nX, nS, nD, nB, nG, zTown, zPup, zHeads, zRooms, zThere, zHall, zLodg, zLodger, zOf, zHit, zFinds, zKin, zDayH, zu_ne, zu_nef, zu_eq, zu_id, zu_rl, zu_rdL, zu_neL, zu_idL, ↓reduceIte, Nat.reduceEqDiff] using r10
  · simpa (disch := omega) only [zRt, zRc, zRh, zRf, zRa, zRr, zRk, zRl, zRn, zRx, zRp, zRb, zRg, zW1, zW2, zWt, zWh, zWf, zWn, zWu, zWa, zWr, zWx, zWs, zWb, zWp, zWg, nT, nH, nF, nR, nK, nX, nS, nD, nB, nG, zTown, zPup, zHeads, zRooms, zThere, zHall, zLodg, zLodger, zOf, zHit, zFinds, zKin, zDayH, zu_ne, zu_nef, zu_eq, zu_id, zu_rl, zu_rdL, zu_neL, zu_idL, ↓reduceIte, Nat.reduceEqDiff] using r11
  · simpa (disch := omega) only [zRt, zRc, zRh, zRf, zRa, zRr, zRk, zRl, zRn, zRx, zRp, zRb, zRg, zW1, zW2, zWt, zWh, zWf, zWn, zWu, zWa, zWr, zWx, zWs, zWb, zWp, zWg, nT, nH, nF, nR, nK, nX, nS, nD, nB, nG, zTown, zPup, zHeads, zRooms, zThere, zHall, zLodg, zLodger, zOf, zHit, zFinds, zKin, zDayH, zu_ne, zu_nef, zu_eq, zu_id, zu_rl, zu_rdL, zu_neL, zu_idL, ↓reduceIte, Nat.reduceEqDiff] using r12
  · simpa (disch := omega) only [zRt, zRc, zRh, zRf, zRa, zRr, zRk, zRl, zRn, zRx, zRp, zRb, zRg, zW1, zW2, zWt, zWh, zWf, zWn, zWu, zWa, zWr, zWx, zWs, zWb, zWp, zWg, nT, nH, nF, nR, nK, nX, nS, nD, nB, nG, zTown, zPup, zHeads, zRooms, zThere, zHall, zLodg, zLodger, zOf, zHit, zFinds, zKin, zDayH, zu_ne, zu_nef, zu_eq, zu_id, zu_rl, zu_rdL, zu_neL, zu_idL, ↓reduceIte, Nat.reduceEqDiff] using r13
