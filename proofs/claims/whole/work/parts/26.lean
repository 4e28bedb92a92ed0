/-! who finds whom, asked; kin in a town; both sides -/
theorem zSure_P {M s : yb_S} (hP : zP s = M) {f o' : Nat} {v : Int32} : zSure s f o' v = zSure M f o' v := by
  have h36 : s.1 176 36 = M.1 176 36 := zrPk hP (by omega)
  have h40 : s.1 176 40 = M.1 176 40 := zrPk hP (by omega)
  have hc : ∀ id, 207 ≤ id → id < 217 → s.1 id = M.1 id := fun id h1 h2 => funext fun k => zrP hP (by omega)
  have hH : zHit s f o' = zHit M f o' := by
    funext r k
    simp only [zHit, zOf, nR, h36, hc 214 (by omega) (by omega), hc 215 (by omega) (by omega), hc 216 (by omega) (by omega), hc 208 (by omega) (by omega), hc 209 (by omega) (by omega), hc 212 (by omega) (by omega), hc 213 (by omega) (by omega)]
  unfold zSure
  simp only [zFinds, hH, nR, nK, h36, h40, hc 215 (by omega) (by omega), hc 216 (by omega) (by omega), hc 208 (by omega) (by omega), hc 209 (by omega) (by omega)]
theorem zTab_sure {M : yb_S} {f o : Nat} {v : Int32} {P : Nat → Nat → Nat → Prop} (hP : ∀ r k, r < nR M → P r o k) (h : zSp M P f o v) : zSure M f o v := by
  rcases h with ⟨e, h⟩ | ⟨e, ⟨r, hr, k, hk, h1, h2, h3⟩, h4⟩
  · refine Or.inl ⟨e, ?_⟩
    rw [zFinds_a]
    exact zany_f.mpr fun r hr => zany_f.mpr fun k hk => h r hr k hk (hP r k hr)
  · exact Or.inr ⟨e, ⟨r, hr, k, hk, h2, h3⟩, fun r hr k hk hh => h4 r hr k hk (hP r k hr) hh⟩
theorem zm_reckC {M o s : yb_S} (hW : zW M) (hQ : zQ M o s) : zs_P (f_X12_reckons s) (fun u => zK s u ∧ ∀ f q, f < nF M → q < nF M → f ≠ q → zSure M f q (u.1 (218 + 1 * f) q)) := by
  have h8 := zw_F8 hW
  refine zs_mono (zm_reck hW hQ) fun u hu => ?_
  have h3 : ∀ f q, f < nF M → q < nF M → f ≠ q → zSure M f q (u.1 (218 + 1 * f) q) := fun f q hf hq hfq => by
    have := hu.2 f q hf hq hfq
    rw [show 218 + f % 24 = 218 + 1 * f by omega] at this
    exact zTab_sure (fun r k hr => Or.inl hr) this
  have hPu : zP u = M := (zfq_P (zfk_q hu.1)).trans hQ.1
  refine ⟨⟨hu.1, fun _ => Or.inr fun f q h24 hf hq hfq => ?_⟩, h3⟩
  have e27 : nF u = nF M := by
    unfold nF
    rw [zrPk hPu (by omega)]
  rw [e27] at hf hq
  rw [zSure_P hPu, show 218 + f % 24 = 218 + 1 * f by omega]
  exact h3 f q hf hq hfq
def zSurely (M : yb_S) (f o : Nat) (v : Int32) : Prop := (f = o → v = -1) ∧ (f ≠ o → zSure M f o v)
theorem zm_surely {M o s : yb_S} (hW : zW M) (hQ : zQ M o s) {f q : Nat} (hf : f < nF M) (hq : q < nF M) : zs_P (f_X12_surely (zi f) (zi q) s) (fun a => zSurely M f q a.1 ∧ zK s a.2) := by
  have h8 := zw_F8 hW
  have hj : ∀ u, zK s u → (f ≠ q → zSure M f q (u.1 (218 + 1 * f) q)) → zs_P (j_X12_surely_11 (zi f) (zi q) u) (fun a => zSurely M f q a.1 ∧ zK s a.2) := by
    intro u hu hs
    unfold j_X12_surely_11
    by_cases e : f = q
    · rw [if_pos (by rw [e])]
      exact zs_ret ⟨⟨fun _ => rfl, fun h => absurd e h⟩, hu⟩
    · rw [if_neg (by rw [zi_inj (by omega) (by omega)]; exact e), zi_ri (by omega) (by omega), Option.bind_some, zi_rd (by omega) (by omega), Option.bind_some]
      exact zs_ret ⟨⟨fun h => absurd h e, hs⟩, hu⟩
  unfold f_X12_surely
  by_cases h42 : s.1 176 42 = 0
  · rw [if_pos h42]
    refine zs_bind (zm_reckC hW hQ) fun u hu => ?_
    exact hj u hu.1 (fun e => hu.2 f q hf hq e)
  · rw [if_neg h42]
    refine hj s (zK_refl s) (fun e => ?_)
    have e27 : nF s = nF M := by
      unfold nF
      rw [zrPk hQ.1 (by omega)]
    have := (hQ.2.2.resolve_left h42) f q (by omega) (by omega) (by omega) e
    rw [zSure_P hQ.1, show 218 + f % 24 = 218 + 1 * f by omega] at this
    exact this
theorem zSurely_m {M : yb_S} {f q : Nat} {v : Int32} (h : zSurely M f q v) (hfq : f ≠ q) : (v = -1) = (zFinds M f q = false) := by
  rcases h.2 hfq with ⟨e, h1⟩ | ⟨e, ⟨r, hr, k, hk, h2, -⟩, -⟩
  · rw [e, h1]
    simp
  · have h3 : zFinds M f q = true := by
      rw [zFinds_a]
      exact zany_t.mpr ⟨r, hr, zany_t.mpr ⟨k, hk, h2⟩⟩
    rw [h3]
    apply propext
    constructor
    · intro h4
      rw [h4] at e
      exact absurd e (by decide)
    · intro h4
      cases h4
theorem zKin_self {M : yb_S} {f : Nat} : zKin M f f = false := by
  unfold zKin
  simp
theorem zm_areKin {M o s : yb_S} (hW : zW M) (hQ : zQ M o s) {f q : Nat} (hf : f < nF M) (hq : q < nF M) : zs_P (f_X12_areKin (zi f) (zi q) s) (fun a => a.1 = zb (zKin M f q) ∧ zK s a.2) := by
  unfold f_X12_areKin
  refine zs_bind (zm_surely hW hQ hf hq) fun a ha => ?_
  by_cases hfq : f = q
  · subst hfq
    rw [zKin_self, if_pos (ha.1.1 rfl)]
    refine zs_bind (zm_surely hW (zK_Q ha.2 hQ) hf hf) fun b hb => ?_
    rw [if_pos (hb.1.1 rfl)]
    exact zs_ret ⟨rfl, zK_trans ha.2 hb.2⟩
  · have e1 := zSurely_m ha.1 hfq
    have hk : zKin M f q = (zFinds M f q || zFinds M q f) := by
      unfold zKin
      rw [show (f != q) = true by simp [hfq]]
      rfl
    rw [hk]
    cases h1 : zFinds M f q
    · rw [if_pos (e1.mpr h1)]
      refine zs_bind (zm_surely hW (zK_Q ha.2 hQ) hq hf) fun b hb => ?_
      have e2 := zSurely_m hb.1 (Ne.symm hfq)
      cases h2 : zFinds M q f
      · rw [if_pos (e2.mpr h2)]
        exact zs_ret ⟨rfl, zK_trans ha.2 hb.2⟩
      · rw [if_neg (fun h => by rw [e2.mp h] at h2; cases h2)]
        exact zs_ret ⟨rfl, zK_trans ha.2 hb.2⟩
    · rw [if_neg (fun h => by rw [e1.mp h] at h1; cases h1)]
      exact zs_ret ⟨rfl, ha.2⟩
def zKinIn (M : yb_S) (f : Nat) (t : Int32) : Int32 := zsum (fun o => cond (zKin M f o && zTown M o == t) 1 0) (nF M)
theorem zm_kinIn {M o s : yb_S} (hW : zW M) (hQ : zQ M o s) {f : Nat} {t : Int32} (hf : f < nF M) : zs_P (f_X12_kinIn (zi f) t s) (fun a => a.1 = zKinIn M f t ∧ zK s a.2) := by
  have h8 := zw_F8 hW
  unfold f_X12_kinIn l_X12_kinIn_5
  refine zs_up (fun k a => a.1 = zsum (fun o => cond (zKin M f o && zTown M o == t) 1 0) k ∧ a.2.1 = zi k ∧ zK s a.2.2) (nF M) ?_ yb_N 0 _ (Nat.zero_le _) (by unfold yb_N; omega) ⟨rfl, rfl, zK_refl s⟩
  rintro k ⟨x, y, u⟩ rc hk ⟨i1, i2, i3⟩ hn
  dsimp only at i1 i2 i3
  subst i1 i2
  have hQu := zK_Q i3 hQ
  show zs_P (f_X12_kinIn_5 (fun x3 x4 s => rc (x3, x4, s)) _ _ _ (zi k) u) _
  unfold f_X12_kinIn_5 j_X12_kinIn_45 j_X12_kinIn_46
  rw [zqk hQu (by omega), zw_F hW]
  rcases Nat.lt_or_ge k (nF M) with hlt | hge
  · rw [if_neg (by rw [zi_le (by omega) (by omega)]; omega)]
    by_cases e : k = f
    · subst e
      rw [if_pos rfl, zi_succ]
      refine hn hlt _ ⟨?_, rfl, i3⟩
      rw [zsum_succ, zKin_self]
      simp
    · rw [if_neg (by rw [zi_inj (by omega) (by omega)]; exact e), zm_townFor hW hQu hlt, Option.bind_some]
      by_cases e2 : zTown M k = t
      · rw [if_pos e2]
        refine zs_bind (zm_areKin hW hQu hf hlt) fun b hb => ?_
        rw [hb.1]
        simp only [zb_t0]
        cases h1 : zKin M f k
        · rw [if_pos rfl, zi_succ]
          refine hn hlt _ ⟨?_, rfl, zK_trans i3 hb.2⟩
          rw [zsum_succ, h1]
          simp
        · rw [if_neg (by decide), zi_succ]
          refine hn hlt _ ⟨?_, rfl, zK_trans i3 hb.2⟩
          rw [zsum_succ, h1, e2]
          simp
      · rw [if_neg e2, zi_succ]
        refine hn hlt _ ⟨?_, rfl, i3⟩
        rw [zsum_succ]
        simp [e2, zc_b, bne]
  · have hkl := Nat.le_antisymm hk hge
    subst hkl
    rw [if_pos (Int32.le_refl _)]
    exact zs_ret ⟨rfl, i3⟩
theorem zo_kinIn {M m s : yb_S} (hW : zW M) (hA : zA M m s) {f t : Nat} (hf : f < nF M) (ht : t < nT M) : f_X8_kinIn (zi f) (zi t) s = some (zKinIn M f (zi t)) := by
  have h8 := zw_F8 hW
  have h9 := zw_T8 hW
  unfold f_X8_kinIn
  rw [zi_rd (by omega) (by omega), Option.bind_some, zi_rd (by omega) (by omega), Option.bind_some, cq_53 hA (by omega), cq_11 hA (by omega)]
  unfold zLodg
  rw [zbits_and (by omega) (by omega), zo_bits h8, Option.bind_some]
  unfold zKinIn
  congr 1
  refine zsum_congr fun k hk => ?_
  rw [decide_eq_true hk]
  rfl
theorem zo_pup {M m s : yb_S} (hA : zA M m s) {t : Nat} (ht : t < 8) : s.1 10 t = zPup M (zi t) zm := cq_10 hA ht
/-! SEATS: all PUPILS less a family's own -/
theorem zPup_cut {M : yb_S} {f : Nat} {t : Int32} : ∀ {n : Nat}, n < 2147483648 → f < n → zsum (fun g => cond (zi g != zi f && zTown M g == t) (M.1 190 g) 0) n + cond (zTown M f == t) (M.1 190 f) 0 = zsum (fun g => cond (zi g != zm && zTown M g == t) (M.1 190 g) 0) n
  | n + 1, hn, hf => by
    rw [zsum_succ, zsum_succ]
    have hm : (zi n != zm) = true := by
      rw [bne_iff_ne, ne_eq, zi_eqm (by omega)]
      exact id
    by_cases e : f = n
    · subst e
      have : zsum (fun g => cond (zi g != zi f && zTown M g == t) (M.1 190 g) 0) f = zsum (fun g => cond (zi g != zm && zTown M g == t) (M.1 190 g) 0) f := zsum_congr fun k hk => by
        rw [show (zi k != zi f) = true by rw [bne_iff_ne, ne_eq, zi_inj (by omega) (by omega)]; omega, show (zi k != zm) = true by rw [bne_iff_ne, ne_eq, zi_eqm (by omega)]; exact id]
      rw [this, hm, show (zi f != zi f) = false by simp]
      simp
    · have ih := zPup_cut (M := M) (f := f) (t := t) (n := n) (by omega) (by omega)
      rw [← ih, hm, show (zi n != zi f) = true by rw [bne_iff_ne, ne_eq, zi_inj (by omega) (by omega)]; omega]
      simp only [Bool.true_and]
      generalize zsum (fun g => cond (zi g != zi f && zTown M g == t) (M.1 190 g) 0) n = x
      generalize cond (zTown M n == t) (M.1 190 n) 0 = y
      generalize cond (zTown M f == t) (M.1 190 f) 0 = z
      rw [Int32.add_assoc, Int32.add_comm y z, ← Int32.add_assoc]
theorem zo_seatsFor {M m s : yb_S} (hW : zW M) (hA : zA M m s) {f t : Nat} (hf : f < nF M) (ht : t < nT M) : f_X8_seatsFor (zi f) (zi t) s = some (M.1 179 t - zPup M (zi t) (zi f)) := by
  have h8 := zw_F8 hW
  have h9 := zw_T8 hW
  unfold f_X8_seatsFor j_X8_seatsFor_26
  have hc := zPup_cut (M := M) (f := f) (t := zi t) (n := nF M) (by omega) hf
  have h10 := zo_pup hA (t := t) (by omega)
  unfold zPup at h10 ⊢
  rw [← hc] at h10
  generalize zsum (fun g => cond (zi g != zi f && zTown M g == zi t) (M.1 190 g) 0) (nF M) = x at *
  simp (disch := omega) only [zi_rd, Option.bind_some, cq_30 hA, cq_23 hA, cq_5 hA, h10]
  by_cases e : zTown M f = zi t
  · rw [if_pos e, e]
    simp only [beq_self_eq_true, cond_true]
    congr 1
    generalize M.1 179 t = a
    generalize M.1 190 f = b
    grind
  · rw [if_neg e, show (zTown M f == zi t) = false from beq_eq_false_iff_ne.mpr e]
    simp only [cond_false]
    congr 1
    grind
