/-! the clause run: the reference's stack, and what waits in the class -/
theorem zi_mul2 (k : Nat) : (2 : Int32) * zi k = zi (2 * k) := by
  rw [show (2 : Int32) = zi 2 from rfl, zi_mul]
theorem zi_subN {a b : Nat} (h : b ≤ a) : zi a - zi b = zi (a - b) := (Int32.ofNat_sub a b h).symm
def zfs (s t : yb_S) : Prop := (∀ id, id ≠ 338 → t.1 id = s.1 id) ∧ t.2 = s.2
theorem zfs_G {s t : yb_S} (h : zfs s t) : zG s t := by
  refine ⟨⟨fun id k _ _ h2 _ => by rw [h.1 id h2], h.2⟩, zC_congr (fun a q1 q2 => h.1 a (by omega)) ?_ ?_ ?_ ?_⟩ <;> rw [h.1 176 (by decide)]
theorem zm_run {M o s : yb_S} (hW : zW M) (hQ : zQ M o s) {j c : Nat} {nm : Nat → Int32} (hj : j < nS M) (hc : c < 6) (hh : zHas M j c = true) (hn : ∀ k, k < 18 → s.1 337 k = nm k) : zs_P (l_X12_tells_70 (zi c) (zi j) yb_N (zi 0) (zi 0) s) (fun q => q.1 = (zev (zCode M j c) nm (zLen M j c)).2 0 ∧ zfs s q.2) := by
  have h8 := zw_S8 hW
  obtain ⟨l0, l5, el, dep, d0, dl, d60, hd⟩ := zw_ok hW hj hc hh
  generalize hlen : zLen M j c = len at *
  have hdep := zev_dep (c := zCode M j c) (nm := nm) d0 hd
  have ei : 322 + 1 * j = 322 + j % 10 := by omega
  have ec : 244 + 7 * j + 1 + 1 * c = 245 + 7 * (j % 10) + c % 6 := by omega
  have hcell : ∀ k, s.1 (245 + 7 * (j % 10) + c % 6) k = zCode M j c k := fun k => zq hQ (by omega)
  unfold l_X12_tells_70
  refine zs_up (fun k q => q.1 = zi (dep k) ∧ q.2.1 = zi k ∧ (∀ i, i < dep k → q.2.2.1 338 i = (zev (zCode M j c) nm k).2 i) ∧ zfs s q.2.2) len ?_ yb_N 0 _ (Nat.zero_le _) (by unfold yb_N; omega) ⟨by rw [d0], rfl, fun i hi => by rw [d0] at hi; exact absurd hi (Nat.not_lt_zero _), ⟨fun _ _ => rfl, rfl⟩⟩
  rintro k ⟨x3, x4, t⟩ rc hk ⟨i1, i2, i3, i4⟩ hnext
  dsimp only at i1 i2 i3 i4
  subst i1 i2
  have d6 := d60 k hk
  have hq : ∀ id k, id ≠ 338 → t.1 id k = s.1 id k := fun id k h => by rw [i4.1 id h]
  show zs_P (f_X12_tells_70 (fun x3 x4 s => rc (x3, x4, s)) _ _ (zi (dep k)) (zi k) t) _
  unfold f_X12_tells_70 j_X12_tells_129 j_X12_tells_153 j_X12_tells_220
  simp only [zi_mul2]
  simp (disch := omega) only [hq, ei, ec, hcell, zq hQ, el, ↓zmd, zl, zi_div, zi_rem, zi_lt, zi_le, zi_inj, zi_add, zi_sub, zi_addm, zi_eqm, zi_meq, zi_mlt, zi_ltm, zi_lem, zi_mle, zi_tn, zi_rd, zi_wr, zi_rl, zi_wl, zi_ri, zu_ne, zu_nef, zu_eq, zu_id, zu_rl, zu_rdL, zu_neL, zu_idL, Option.bind_some, ↓reduceIte, Nat.reduceEqDiff, if_pos, if_neg]
  rcases Nat.lt_or_ge k len with hlt | hge
  · have hwf : ∀ (id' : Nat) (v : Int32), zfs s (yb_pI t 338 id' v) := fun id' v => ⟨fun id h => (zu_nef h).trans (i4.1 id h), i4.2⟩
    rw [if_neg (by omega)]
    have ez : (zev (zCode M j c) nm (k + 1)) = zstp (zCode M j c (2 * k)) (zCode M j c (2 * k + 1)) nm (zev (zCode M j c) nm k) := zev_s
    have ek := hdep k hk
    rcases hd k hlt with ⟨h1, ⟨v, hv, h2⟩, h3⟩ | ⟨h1, ⟨v, hv, h2⟩, h3⟩ | ⟨h1, h2, h3⟩ | ⟨h1, h2, h3⟩
    · rw [h1] at ez ⊢
      rw [h2]
      simp only [zstp, ↓reduceIte] at ez
      simp (disch := omega) only [↓zmd, zl, zi_div, zi_rem, zi_lt, zi_le, zi_inj, zi_add, zi_sub, zi_addm, zi_eqm, zi_meq, zi_mlt, zi_ltm, zi_lem, zi_mle, zi_tn, zi_rd, zi_wr, zi_rl, zi_wl, zi_ri, zu_ne, zu_nef, zu_eq, zu_id, zu_rl, zu_rdL, zu_neL, zu_idL, Option.bind_some, ↓reduceIte, Nat.reduceEqDiff, if_pos, if_neg]
      refine hnext hlt _ ⟨by rw [h3], rfl, fun i hi => ?_, hwf _ _⟩
      rw [ez]
      show (yb_pI t 338 (dep k) (zi v)).1 338 i = zput _ _ _ i
      unfold zput
      rw [zu_id, ek, h2]
      by_cases e : i = dep k
      · rw [if_pos e, if_pos e]
      · rw [if_neg e, if_neg e]
        exact i3 i (by omega)
    · rw [h1] at ez ⊢
      rw [h2]
      simp only [zstp, ↓reduceIte, show ¬ ((118 : Int32) = 110) by decide] at ez
      simp (disch := omega) only [hn, hq, ↓zmd, zl, zi_div, zi_rem, zi_lt, zi_le, zi_inj, zi_add, zi_sub, zi_addm, zi_eqm, zi_meq, zi_mlt, zi_ltm, zi_lem, zi_mle, zi_tn, zi_rd, zi_wr, zi_rl, zi_wl, zi_ri, zu_ne, zu_nef, zu_eq, zu_id, zu_rl, zu_rdL, zu_neL, zu_idL, Option.bind_some, ↓reduceIte, Nat.reduceEqDiff, if_pos, if_neg]
      refine hnext hlt _ ⟨by rw [h3], rfl, fun i hi => ?_, hwf _ _⟩
      rw [ez]
      show (yb_pI t 338 (dep k) (nm v)).1 338 i = zput _ _ _ i
      unfold zput
      rw [zu_id, ek, h2, zi_tn (by omega)]
      by_cases e : i = dep k
      · rw [if_pos e, if_pos e]
      · rw [if_neg e, if_neg e]
        exact i3 i (by omega)
    · rw [h1] at ez ⊢
      simp only [zstp, ↓reduceIte, show ¬ ((33 : Int32) = 110) by decide, show ¬ ((33 : Int32) = 118) by decide] at ez
      simp (disch := omega) only [↓zmd, zl, zi_div, zi_rem, zi_lt, zi_le, zi_inj, zi_add, zi_sub, zi_addm, zi_eqm, zi_meq, zi_mlt, zi_ltm, zi_lem, zi_mle, zi_tn, zi_rd, zi_wr, zi_rl, zi_wl, zi_ri, zu_ne, zu_nef, zu_eq, zu_id, zu_rl, zu_rdL, zu_neL, zu_idL, Option.bind_some, ↓reduceIte, Nat.reduceEqDiff, if_pos, if_neg]
      refine hnext hlt _ ⟨by rw [h3], rfl, fun i hi => ?_, hwf _ _⟩
      rw [ez]
      show (yb_pI t 338 (dep k - 1) (1 - t.1 338 (dep k - 1))).1 338 i = zput _ _ _ i
      unfold zput
      rw [zu_id, ek, i3 (dep k - 1) (by omega)]
      by_cases e : i = dep k - 1
      · rw [if_pos e, if_pos e]
      · rw [if_neg e, if_neg e]
        exact i3 i (by omega)
    · obtain ⟨q1, q2, q3⟩ := zbin_ne h1
      simp only [zstp, if_neg q1, if_neg q2, if_neg q3] at ez
      rw [show (110 : Int32) = zi 110 from rfl] at q1
      rw [show (118 : Int32) = zi 118 from rfl] at q2
      rw [show (33 : Int32) = zi 33 from rfl] at q3
      rw [if_neg q1, if_neg q2, if_neg q3]
      simp (disch := omega) only [zm_done h1, ↓zmd, zl, zi_div, zi_rem, zi_lt, zi_le, zi_inj, zi_add, zi_sub, zi_addm, zi_eqm, zi_meq, zi_mlt, zi_ltm, zi_lem, zi_mle, zi_tn, zi_rd, zi_wr, zi_rl, zi_wl, zi_ri, zu_ne, zu_nef, zu_eq, zu_id, zu_rl, zu_rdL, zu_neL, zu_idL, Option.bind_some, ↓reduceIte, Nat.reduceEqDiff, if_pos, if_neg]
      refine hnext hlt _ ⟨by rw [show dep (k + 1) = dep k - 1 by omega], rfl, fun i hi => ?_, hwf _ _⟩
      rw [ez]
      show (yb_pI t 338 (dep k - 2) (zjoin _ (t.1 338 (dep k - 2)) (t.1 338 (dep k - 1)))).1 338 i = zput _ _ _ i
      unfold zput
      rw [zu_id, ek, i3 (dep k - 1) (by omega), i3 (dep k - 2) (by omega)]
      by_cases e : i = dep k - 2
      · rw [if_pos e, if_pos e]
      · rw [if_neg e, if_neg e]
        exact i3 i (by omega)
  · have hkl := Nat.le_antisymm hk hge
    subst hkl
    rw [if_pos (by omega)]
    exact zs_ret ⟨by rw [← i3 0 (by omega)], i4⟩
theorem zHas_has {M : yb_S} {j c len : Nat} (hl : len ≤ 500) (h : M.1 (322 + j % 10) c = zi len) (h0 : ¬ 0 < len) : zHas M j c = false := by
  rw [zHas_n hl h, decide_eq_false h0]
theorem zix_n : zix none = -1 := rfl
theorem zix_s {k : Nat} : zix (some k) = zi k := rfl
theorem zm_tells {M o s : yb_S} (hW : zW M) (hQ : zQ M o s) {c : Nat} {nm : Nat → Int32} (hc : c < 6) (hn : ∀ k, k < 18 → s.1 337 k = nm k) : zs_P (f_X12_tells (zi c) s) (fun q => q.1 = zTell M c nm ∧ zfs s q.2) := by
  have h8 := zw_S8 hW
  have hj38 : ∀ r : Option Nat, zForce M c = r → (∀ j, r = some j → j < nS M ∧ zHas M j c = true) → zs_P (j_X12_tells_38 (zi c) (zix r) s) (fun q => q.1 = zTell M c nm ∧ zfs s q.2) := by
    intro r hr hok
    unfold j_X12_tells_38 zTell
    rw [hr]
    cases r with
    | none =>
      rw [zix_n, if_pos rfl]
      have e2 : (zi c = 2) = (c = 2) := zi_inj (b := 2) (by omega) (by decide)
      have e4 : (zi c = 4) = (c = 4) := zi_inj (b := 4) (by omega) (by decide)
      simp only [e2, e4]
      unfold zdflt
      by_cases h2 : c = 2
      · rw [if_pos h2]
        exact ⟨_, rfl, by dsimp only; rw [if_pos h2], ⟨fun _ _ => rfl, rfl⟩⟩
      · by_cases h4 : c = 4
        · rw [if_neg h2, if_pos h4]
          exact ⟨_, rfl, by dsimp only; rw [if_neg h2, if_pos h4], ⟨fun _ _ => rfl, rfl⟩⟩
        · rw [if_neg h2, if_neg h4]
          exact ⟨_, rfl, by dsimp only; rw [if_neg h2, if_neg h4], ⟨fun _ _ => rfl, rfl⟩⟩
    | some j =>
      obtain ⟨hj, hh⟩ := hok j rfl
      rw [zix_s, if_neg (by rw [show (-1 : Int32) = zm from rfl, zi_eqm (by omega)]; exact id)]
      exact zm_run hW hQ hj hc hh hn
  have hj29 : zForce M c = zSheet M c (M.1 176 7) (nS M) → zs_P (j_X12_tells_29 (zi c) s) (fun q => q.1 = zTell M c nm ∧ zfs s q.2) := by
    intro hf
    unfold j_X12_tells_29
    rw [zm_sheetFor hW hQ hc, Option.bind_some, zqk hQ (by omega)]
    exact hj38 _ hf (fun j hj => zSheet_lt hj)
  unfold f_X12_tells
  rw [zqk hQ (by omega)]
  by_cases h58 : M.1 176 58 = -1
  · rw [if_pos h58]
    exact hj29 (by unfold zForce; rw [if_pos (show M.1 176 58 = zm from h58)])
  · rw [if_neg h58]
    obtain ⟨j, hj, ej⟩ : ∃ j, j < nS M ∧ M.1 176 58 = zi j := (zw_58 hW).resolve_left h58
    obtain ⟨len, hl, el, -⟩ := zw_len hW hj hc
    have ei : 322 + 1 * j = 322 + j % 10 := by omega
    rw [ej]
    simp (disch := omega) only [ei, zq hQ, el, ↓zmd, zl, zi_div, zi_rem, zi_lt, zi_le, zi_inj, zi_add, zi_sub, zi_addm, zi_eqm, zi_meq, zi_mlt, zi_ltm, zi_lem, zi_mle, zi_tn, zi_rd, zi_wr, zi_rl, zi_wl, zi_ri, zu_ne, zu_nef, zu_eq, zu_id, zu_rl, zu_rdL, zu_neL, zu_idL, Option.bind_some, ↓reduceIte, Nat.reduceEqDiff, if_pos, if_neg]
    have hf : zForce M c = if zHas M j c then some j else zSheet M c (M.1 176 7) (nS M) := by
      unfold zForce
      rw [if_neg (show ¬ M.1 176 58 = zm from h58), ej, zi_tn (by omega)]
    by_cases h0 : len ≤ 0
    · rw [if_pos h0]
      refine hj29 ?_
      rw [hf, zHas_has hl el (by omega)]
      rfl
    · rw [if_neg h0]
      have hh : zHas M j c = true := by rw [zHas_n hl el]; exact decide_eq_true (by omega)
      refine hj38 (some j) (by rw [hf, hh]; rfl) (fun i hi => ?_)
      cases hi
      exact ⟨hj, hh⟩
/-! the same in the class -/
theorem cq_law {M m s : yb_S} (h : zA M m s) {j c len : Nat} (hj : j < nS M) (h8 : nS M ≤ 10) (hc : c < 6) (hl : len ≤ 500) (el : M.1 (322 + j % 10) c = zi len) : (len = 0 → s.1 (69 + 1 * j) c = -1) ∧ (0 < len → ∃ p, p + len ≤ 500 ∧ s.1 (69 + 1 * j) c = zi p ∧ s.1 (80 + 1 * j) c = zi (p + len) ∧ ∀ k, k < len → s.1 (58 + 1 * j) (p + k) = zstep (M.1 (245 + 7 * (j % 10) + c % 6) (2 * k)) (M.1 (245 + 7 * (j % 10) + c % 6) (2 * k + 1))) := by
  have e := ((h.1.2.2.2.2.2.2.2.1.2.2 j hj).2.2 c hc len hl el)
  have e1 : 69 + j % 10 = 69 + 1 * j := by omega
  have e2 : 80 + j % 10 = 80 + 1 * j := by omega
  have e3 : 58 + j % 10 = 58 + 1 * j := by omega
  rw [e1, e2, e3] at e
  have hz : ∀ id k, (58 ≤ id ∧ id < 90) → (zO s).1 id k = s.1 id k := fun id k h => zO_rd (zeO_t (by omega))
  simp (disch := omega) only [hz] at e
  exact e
theorem zo_hasClause {M m s : yb_S} (hW : zW M) (hA : zA M m s) {j c : Nat} (hj : j < nS M) (hc : c < 6) : f_X5_hasClause (zi j) (zi c) s = some (zb (zHas M j c)) := by
  have h8 := zw_S8 hW
  obtain ⟨len, hl, el, -⟩ := zw_len hW hj hc
  obtain ⟨l1, l2⟩ := cq_law hA hj h8 hc hl el
  unfold f_X5_hasClause
  rw [zo_hSt hW hA hj, zHas_n hl el]
  simp (disch := omega) only [↓zmd, zl, zi_div, zi_rem, zi_lt, zi_le, zi_inj, zi_add, zi_sub, zi_addm, zi_eqm, zi_meq, zi_mlt, zi_ltm, zi_lem, zi_mle, zi_tn, zi_rd, zi_wr, zi_rl, zi_wl, zi_ri, zu_ne, zu_nef, zu_eq, zu_id, zu_rl, zu_rdL, zu_neL, zu_idL, Option.bind_some, ↓reduceIte, Nat.reduceEqDiff, if_pos, if_neg]
  by_cases h0 : 0 < len
  · obtain ⟨p, hp, e, -⟩ := l2 h0
    rw [decide_eq_true h0, e]
    simp (disch := omega) only [↓zmd, zl, zi_div, zi_rem, zi_lt, zi_le, zi_inj, zi_add, zi_sub, zi_addm, zi_eqm, zi_meq, zi_mlt, zi_ltm, zi_lem, zi_mle, zi_tn, zi_rd, zi_wr, zi_rl, zi_wl, zi_ri, zu_ne, zu_nef, zu_eq, zu_id, zu_rl, zu_rdL, zu_neL, zu_idL, Option.bind_some, ↓reduceIte, Nat.reduceEqDiff, if_pos, if_neg]
    rfl
  · rw [decide_eq_false h0, l1 (by omega), if_pos (by rfl)]
    rfl
theorem zo_hasClause0 {M m s : yb_S} (hW : zW M) (hA : zA M m s) {c : Int32} : f_X5_hasClause (-1) c s = some 0 := by
  unfold f_X5_hasClause
  rw [zo_hSf hW hA (zin_m (by have := zw_S8 hW; omega))]
  rfl
theorem zo_inForceL {M m s : yb_S} (hW : zW M) (hA : zA M m s) {c : Nat} {d : Int32} (hc : c < 6) : ∀ n k, k ≤ nS M → k < n → l_X5_inForce_24 (zi c) d s n (zi k - 1) = some (zix (zSheet M c d k)) := by
  have h8 := zw_S8 hW
  unfold l_X5_inForce_24
  refine zs_dnE (fun k => zi k - 1) (fun k => zix (zSheet M c d k)) (nS M) ?_ ?_
  · intro rc
    show f_X5_inForce_24 _ _ _ _ (zi 0 - 1) = _
    unfold f_X5_inForce_24
    rw [if_pos (by decide)]
    rfl
  · intro k rc hk
    show f_X5_inForce_24 _ _ _ _ (zi (k + 1) - 1) = _ ∨ f_X5_inForce_24 _ _ _ _ (zi (k + 1) - 1) = _ ∧ _
    have h10 : ¬ (zi 1 = (0 : Int32)) := by decide
    have e1 : zi k + zm = zi k - 1 := by
      rw [Int32.sub_eq_add_neg]
      rfl
    rw [zi_gt, zSheet_s]
    unfold f_X5_inForce_24 j_X5_inForce_62 j_X5_inForce_58 j_X5_inForce_63 j_X5_inForce_81 zCnt
    rw [zo_hasClause hW hA hk hc]
    simp (disch := omega) only [cq_55 hA, cq_56 hA, ↓zmd, zl, zi_lt, zi_rd, Option.bind_some, zb_t, e1]
    rw [show zi 0 = (0 : Int32) from rfl, show (1 : Int32) = zi 1 from rfl] at *
    by_cases h1 : d < M.1 333 k
    · right
      simp [h1]
    · by_cases h2 : M.1 334 k = zm
      · cases hz : zHas M k c
        · right
          simp [h1, h2]
        · left
          simp [h1, h2, zix, h10]
      · by_cases h3 : M.1 334 k ≤ d
        · right
          simp [h1, h2, h3]
        · cases hz : zHas M k c
          · right
            simp [h1, h2, h3]
          · left
            simp [h1, h2, h3, zix, h10]
def zForceD (M : yb_S) (c : Nat) (d : Int32) : Option Nat := if M.1 176 58 = zm then zSheet M c d (nS M) else if zHas M (M.1 176 58).toNatClampNeg c then some (M.1 176 58).toNatClampNeg else zSheet M c d (nS M)
theorem zo_inForce {M m s : yb_S} (hW : zW M) (hA : zA M m s) {c : Nat} {d : Int32} (hc : c < 6) : f_X5_inForce (zi c) d s = some (zix (zForceD M c d)) := by
  have h8 := zw_S8 hW
  have hL : l_X5_inForce_24 (zi c) d s yb_N (zi (nS M) - 1) = some (zix (zSheet M c d (nS M))) := zo_inForceL hW hA hc yb_N (nS M) (Nat.le_refl _) (by unfold yb_N; omega)
  unfold f_X5_inForce zForceD
  rw [cq_I hA, cq_S hA, zw_S hW, hL]
  rcases zw_58 hW with e | ⟨j, hj, e⟩
  · rw [e, zo_hasClause0 hW hA, Option.bind_some, if_pos rfl, if_pos (show (-1 : Int32) = zm from rfl)]
  · rw [e, zo_hasClause hW hA hj hc, Option.bind_some, zi_tn (by omega), if_neg (show ¬ zi j = zm by rw [zi_eqm (by omega)]; exact id)]
    simp only [zb_t0]
    cases zHas M j c
    · rw [if_pos rfl]
      rfl
    · rw [if_neg (by decide)]
      rfl
theorem zstep_num {v : Nat} : zstep 110 (zi v) = zi (1000 + v) := by
  unfold zstep
  rw [if_pos rfl, show (1000 : Int32) = zi 1000 from rfl, zi_add]
theorem zstep_nm {v : Nat} : zstep 118 (zi v) = zi v := by
  unfold zstep
  rw [if_neg (by decide), if_pos rfl]
theorem zstep_not {v : Int32} : zstep 33 v = zi 22 := by
  unfold zstep
  rw [if_neg (by decide), if_neg (by decide), if_pos rfl]
  rfl
theorem zstep_bin {op v : Int32} (h : zbin op) : ∃ k, 18 ≤ k ∧ k < 1000 ∧ k ≠ 22 ∧ zstep op v = zi k := by
  unfold zbin at h
  unfold zstep
  rcases h with h | h | h | h | h | h | h | h | h <;> subst h
  · exact ⟨42, by decide, by decide, by decide, rfl⟩
  · exact ⟨43, by decide, by decide, by decide, rfl⟩
  · exact ⟨45, by decide, by decide, by decide, rfl⟩
  · exact ⟨47, by decide, by decide, by decide, rfl⟩
  · exact ⟨60, by decide, by decide, by decide, rfl⟩
  · exact ⟨61, by decide, by decide, by decide, rfl⟩
  · exact ⟨62, by decide, by decide, by decide, rfl⟩
  · exact ⟨20, by decide, by decide, by decide, rfl⟩
  · exact ⟨21, by decide, by decide, by decide, rfl⟩
theorem zo_valueOf {M m s : yb_S} (hW : zW M) (hA : zA M m s) {j c : Nat} {nm : Nat → Int32} (hj : j < nS M) (hc : c < 6) (hh : zHas M j c = true) (hn : ∀ k, k < 18 → s.1 91 k = nm k) : zs_P (f_X5_valueOf_91 (zi j) (zi c) s) (fun q => q.1 = (zev (zCode M j c) nm (zLen M j c)).2 0 ∧ zfo s q.2) := by
  have h8 := zw_S8 hW
  obtain ⟨l0, l5, el, dep, d0, dl, d60, hd⟩ := zw_ok hW hj hc hh
  obtain ⟨p, hp, p1, p2, p3⟩ := (cq_law hA hj h8 hc l5 el).2 l0
  unfold f_X5_valueOf_91
  rw [zo_hasClause hW hA hj hc, hh, Option.bind_some, if_neg (by decide), zi_ri (by omega) (by omega), Option.bind_some, zi_rd (by omega) (by omega), Option.bind_some, p1]
  have hcd : M.1 (245 + 7 * (j % 10) + c % 6) = zCode M j c := rfl
  rw [hcd] at p3
  generalize zLen M j c = len at *
  generalize zCode M j c = cd at *
  have hdep := zev_dep (c := cd) (nm := nm) d0 hd
  unfold l_X5_valueOf_91_27
  refine zs_up (fun k q => q.1 = zi (dep k) ∧ q.2.1 = zi (p + k) ∧ (∀ i, i < dep k → q.2.2.1 90 i = (zev cd nm k).2 i) ∧ (∀ id, id ≠ 90 → q.2.2.1 id = s.1 id) ∧ q.2.2.2 = s.2) len ?_ yb_N 0 _ (Nat.zero_le _) (by unfold yb_N; omega) ⟨by rw [d0]; rfl, rfl, fun i hi => by rw [d0] at hi; exact absurd hi (Nat.not_lt_zero _), fun _ _ => rfl, rfl⟩
  rintro k ⟨x4, x5, t⟩ rc hk ⟨i1, i2, i3, i4, i5⟩ hnext
  dsimp only at i1 i2 i3 i4 i5
  subst i1 i2
  have d6 := d60 k hk
  have hq : ∀ id k, id ≠ 90 → t.1 id k = s.1 id k := fun id k h => by rw [i4 id h]
  show zs_P (f_X5_valueOf_91_27 (fun x4 x5 s => rc (x4, x5, s)) _ _ (zi (dep k)) (zi (p + k)) t) _
  unfold f_X5_valueOf_91_27 j_X5_valueOf_91_74 j_X5_valueOf_91_108 j_X5_valueOf_91_190 j_X5_valueOf_91_196
  simp (disch := omega) only [hq, p2, ↓zmd, zl, zi_div, zi_rem, zi_lt, zi_le, zi_inj, zi_add, zi_sub, zi_addm, zi_eqm, zi_meq, zi_mlt, zi_ltm, zi_lem, zi_mle, zi_tn, zi_rd, zi_wr, zi_rl, zi_wl, zi_ri, zu_ne, zu_nef, zu_eq, zu_id, zu_rl, zu_rdL, zu_neL, zu_idL, Option.bind_some, ↓reduceIte, Nat.reduceEqDiff, if_pos, if_neg]
  rcases Nat.lt_or_ge k len with hlt | hge
  · rw [if_neg (by omega), p3 k hlt]
    have ez : (zev cd nm (k + 1)) = zstp (cd (2 * k)) (cd (2 * k + 1)) nm (zev cd nm k) := zev_s
    have ek := hdep k hk
    have hwf : ∀ (id' : Nat) (v : Int32), (∀ id, id ≠ 90 → (yb_pI t 90 id' v).1 id = s.1 id) ∧ (yb_pI t 90 id' v).2 = s.2 := fun id' v => ⟨fun id h => (zu_nef h).trans (i4 id h), i5⟩
    have epk : p + k + 1 = p + (k + 1) := by omega
    rcases hd k hlt with ⟨h1, ⟨v, hv, h2⟩, h3⟩ | ⟨h1, ⟨v, hv, h2⟩, h3⟩ | ⟨h1, h2, h3⟩ | ⟨h1, h2, h3⟩
    · rw [h1, h2] at ez ⊢
      rw [zstep_num]
      simp only [zstp, ↓reduceIte] at ez
      simp (disch := omega) only [↓zmd, zl, zi_div, zi_rem, zi_lt, zi_le, zi_inj, zi_add, zi_sub, zi_addm, zi_eqm, zi_meq, zi_mlt, zi_ltm, zi_lem, zi_mle, zi_tn, zi_rd, zi_wr, zi_rl, zi_wl, zi_ri, zu_ne, zu_nef, zu_eq, zu_id, zu_rl, zu_rdL, zu_neL, zu_idL, Option.bind_some, ↓reduceIte, Nat.reduceEqDiff, if_pos, if_neg]
      rw [epk, show 1000 + v - 1000 = v by omega]
      refine hnext hlt _ ⟨by rw [h3], rfl, fun i hi => ?_, hwf _ _⟩
      rw [ez]
      show (yb_pI t 90 (dep k) (zi v)).1 90 i = zput _ _ _ i
      unfold zput
      rw [zu_id, ek]
      by_cases e : i = dep k
      · rw [if_pos e, if_pos e]
      · rw [if_neg e, if_neg e]
        exact i3 i (by omega)
    · rw [h1, h2] at ez ⊢
      rw [zstep_nm]
      simp only [zstp, ↓reduceIte, show ¬ ((118 : Int32) = 110) by decide] at ez
      simp (disch := omega) only [hn, hq, ↓zmd, zl, zi_div, zi_rem, zi_lt, zi_le, zi_inj, zi_add, zi_sub, zi_addm, zi_eqm, zi_meq, zi_mlt, zi_ltm, zi_lem, zi_mle, zi_tn, zi_rd, zi_wr, zi_rl, zi_wl, zi_ri, zu_ne, zu_nef, zu_eq, zu_id, zu_rl, zu_rdL, zu_neL, zu_idL, Option.bind_some, ↓reduceIte, Nat.reduceEqDiff, if_pos, if_neg]
      rw [epk]
      refine hnext hlt _ ⟨by rw [h3], rfl, fun i hi => ?_, hwf _ _⟩
      rw [ez]
      show (yb_pI t 90 (dep k) (nm v)).1 90 i = zput _ _ _ i
      unfold zput
      rw [zu_id, ek, zi_tn (by omega)]
      by_cases e : i = dep k
      · rw [if_pos e, if_pos e]
      · rw [if_neg e, if_neg e]
        exact i3 i (by omega)
    · rw [h1] at ez ⊢
      rw [zstep_not]
      simp only [zstp, ↓reduceIte, show ¬ ((33 : Int32) = 110) by decide, show ¬ ((33 : Int32) = 118) by decide] at ez
      simp (disch := omega) only [↓zmd, zl, zi_div, zi_rem, zi_lt, zi_le, zi_inj, zi_add, zi_sub, zi_addm, zi_eqm, zi_meq, zi_mlt, zi_ltm, zi_lem, zi_mle, zi_tn, zi_rd, zi_wr, zi_rl, zi_wl, zi_ri, zu_ne, zu_nef, zu_eq, zu_id, zu_rl, zu_rdL, zu_neL, zu_idL, Option.bind_some, ↓reduceIte, Nat.reduceEqDiff, if_pos, if_neg]
      rw [epk]
      refine hnext hlt _ ⟨by rw [h3], rfl, fun i hi => ?_, hwf _ _⟩
      rw [ez]
      show (yb_pI t 90 (dep k - 1) (1 - t.1 90 (dep k - 1))).1 90 i = zput _ _ _ i
      unfold zput
      rw [zu_id, ek, i3 (dep k - 1) (by omega)]
      by_cases e : i = dep k - 1
      · rw [if_pos e, if_pos e]
      · rw [if_neg e, if_neg e]
        exact i3 i (by omega)
    · obtain ⟨q1, q2, q3⟩ := zbin_ne h1
      simp only [zstp, if_neg q1, if_neg q2, if_neg q3] at ez
      have hjo : ∀ a b, f_X5_joined (zstep (cd (2 * k)) (cd (2 * k + 1))) a b t = some (zjoin (cd (2 * k)) a b) := fun a b => zo_joined h1
      obtain ⟨w, w1, w2, w3, w4⟩ := zstep_bin (v := cd (2 * k + 1)) h1
      rw [w4] at hjo ⊢
      simp (disch := omega) only [hjo, ↓zmd, zl, zi_div, zi_rem, zi_lt, zi_le, zi_inj, zi_add, zi_sub, zi_addm, zi_eqm, zi_meq, zi_mlt, zi_ltm, zi_lem, zi_mle, zi_tn, zi_rd, zi_wr, zi_rl, zi_wl, zi_ri, zu_ne, zu_nef, zu_eq, zu_id, zu_rl, zu_rdL, zu_neL, zu_idL, Option.bind_some, ↓reduceIte, Nat.reduceEqDiff, if_pos, if_neg]
      rw [epk, show dep k - 1 - 1 = dep k - 2 by omega]
      refine hnext hlt _ ⟨by rw [show dep (k + 1) = dep k - 1 by omega], rfl, fun i hi => ?_, hwf _ _⟩
      rw [ez]
      show (yb_pI t 90 (dep k - 2) (zjoin _ (t.1 90 (dep k - 2)) (t.1 90 (dep k - 1)))).1 90 i = zput _ _ _ i
      unfold zput
      rw [zu_id, ek, i3 (dep k - 1) (by omega), i3 (dep k - 2) (by omega)]
      by_cases e : i = dep k - 2
      · rw [if_pos e, if_pos e]
      · rw [if_neg e, if_neg e]
        exact i3 i (by omega)
  · have hkl := Nat.le_antisymm hk hge
    subst hkl
    rw [if_pos (by omega)]
    exact zs_ret ⟨by rw [← i3 0 (by omega)], fun id h1 _ => i4 id h1, i5⟩
