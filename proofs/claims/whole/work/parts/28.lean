/-! the class asks a clause -/
theorem zu_w91 {M m s : yb_S} (h : zA M m s) {k : Nat} {x : Int32} : zA M m (yb_pI s 91 k x) := zA_w h (by omega)
theorem zfo_w91 {s t : yb_S} (h : zfo s t) {k : Nat} {x : Int32} : zfo s (yb_pI t 91 k x) := zfo_trans h (zfo_w (Or.inr rfl))
theorem zo_clr {M m s : yb_S} {x1 x2 x3 x4 x5 x6 : Int32} {Q : Int32 × yb_S → Prop} (hx : ∀ (rc : Int32 → yb_S → Option (Int32 × yb_S)) (t : yb_S), zfo s t → (∀ k, k < 18 → t.1 91 k = 0) → zs_P (f_X8_tells_28 rc x1 x2 x3 x4 x5 x6 (zi 18) t) Q) : zs_P (l_X8_tells_28 x1 x2 x3 x4 x5 x6 yb_N (zi 0) s) Q := by
  unfold l_X8_tells_28
  refine zs_up (fun k q => q.1 = zi k ∧ (∀ j, j < k → q.2.1 91 j = 0) ∧ zfo s q.2) 18 ?_ yb_N 0 _ (Nat.zero_le _) (by decide) ⟨rfl, fun j hj => absurd hj (Nat.not_lt_zero _), zfo_refl s⟩
  rintro k ⟨x, u⟩ rc hk ⟨i1, i2, i3⟩ hn
  dsimp only at i1 i2 i3
  subst i1
  show zs_P (f_X8_tells_28 (fun x1 s => rc (x1, s)) x1 x2 x3 x4 x5 x6 (zi k) u) _
  rcases Nat.lt_or_ge k 18 with hlt | hge
  · unfold f_X8_tells_28
    rw [show (18 : Int32) = zi 18 from rfl, if_neg (by rw [zi_le (by omega) (by omega)]; omega), zi_wr (by omega) (by omega), Option.bind_some, zi_succ]
    refine hn hlt _ ⟨rfl, fun j hj => ?_, zfo_w91 i3⟩
    rw [zu_id]
    by_cases e : j = k
    · rw [if_pos e]
    · rw [if_neg e]
      exact i2 j (by omega)
  · have hkl := Nat.le_antisymm hk hge
    subst hkl
    exact hx _ u i3 i2
theorem zForceD_n {M : yb_S} {c : Nat} : zForceD M c (M.1 176 7) = zForce M c := rfl
theorem zo_unw {c : Nat} {s : yb_S} (hc : c < 6) : f_X5_unwritten (zi c) s = some (zdflt c) := by
  have e2 : (zi c = 2) = (c = 2) := zi_inj (b := 2) (by omega) (by decide)
  have e4 : (zi c = 4) = (c = 4) := zi_inj (b := 4) (by omega) (by decide)
  unfold f_X5_unwritten zdflt
  simp only [e2, e4]
  by_cases h2 : c = 2
  · rw [if_pos h2, if_pos h2]
  · by_cases h4 : c = 4
    · rw [if_neg h2, if_pos h4, if_neg h2, if_pos h4]
    · rw [if_neg h2, if_neg h4, if_neg h2, if_neg h4]
/-- the class's telling, whoever is asked: its names must come to nm -/
theorem zo_tells {M m s : yb_S} (hW : zW M) (hA : zA M m s) {c : Nat} {x2 x3 x4 x5 : Int32} {nm : Nat → Int32} (hc : c < 6) (hx : ∀ (rc : Int32 → yb_S → Option (Int32 × yb_S)) (t : yb_S) (x6 : Int32), zA M m t → zfo s t → (∀ k, k < 18 → t.1 91 k = 0) → ∃ u, f_X8_tells_28 rc (zi c) x2 x3 x4 x5 x6 (zi 18) t = j_X8_tells_173 (zi c) x6 u ∧ zfo s u ∧ ∀ k, k < 18 → u.1 91 k = nm k) : zs_P (f_X8_tells (zi c) x2 x3 x4 x5 s) (fun a => a.1 = zTell M c nm ∧ zfo s a.2) := by
  have h8 := zw_S8 hW
  unfold f_X8_tells
  rw [cq_D hA, zo_inForce hW hA hc, zForceD_n, Option.bind_some]
  unfold zTell
  cases hf : zForce M c with
  | none =>
    rw [zix_n, if_pos rfl, zo_unw hc, Option.bind_some]
    exact zs_ret ⟨rfl, zfo_refl s⟩
  | some j =>
    obtain ⟨hj, hh⟩ := zForce_ok hW hf
    rw [zix_s, if_neg (by rw [show (-1 : Int32) = zm from rfl, zi_eqm (by omega)]; exact id)]
    refine zo_clr (M := M) (m := m) fun rc t ht hz => ?_
    obtain ⟨u, e1, e2, e3⟩ := hx rc t (zi j) (zfo_A ht hA) ht hz
    rw [e1]
    unfold j_X8_tells_173
    refine zs_bind (zo_valueOf hW (zfo_A e2 hA) hj hc hh e3) fun a ha => ?_
    exact zs_ret ⟨ha.1, zfo_trans e2 ha.2⟩
theorem zo_nameF {M m t : yb_S} (hW : zW M) (hA : zA M m t) {f : Nat} (hf : f < nF M) : f_X8_nameFamily (zi f) t = some (yb_pI (yb_pI (yb_pI (yb_pI (yb_pI (yb_pI (yb_pI t 91 0 (M.1 189 f)) 91 1 (M.1 190 f)) 91 2 (M.1 191 f)) 91 3 (M.1 192 f)) 91 4 (M.1 193 f)) 91 5 (M.1 194 f)) 91 6 (M.1 197 f)) := by
  have h8 := zw_F8 hW
  unfold f_X8_nameFamily
  simp (disch := omega) only [zl, zi_rd, zi_wr, Option.bind_some, zu_ne, cq_22 hA, cq_23 hA, cq_24 hA, cq_25 hA, cq_26 hA, cq_27 hA, cq_31 hA]
/-- the class's names for a family -/
theorem zo_tellsF {M m s : yb_S} (hW : zW M) (hA : zA M m s) {c f : Nat} {own : Int32} (hc : c < 6) (hf : f < nF M) : zs_P (f_X8_tells (zi c) (zi f) (-1) (-1) own s) (fun a => a.1 = zTell M c (zNf M f own) ∧ zfo s a.2) := by
  have h8 := zw_H8 hW
  refine zo_tells hW hA hc fun rc t x6 hAt ht hz => ?_
  unfold f_X8_tells_28
  rw [if_pos (by decide)]
  simp (disch := omega) only [show (14 : Int32) = zi 14 from rfl, show (16 : Int32) = zi 16 from rfl, show (17 : Int32) = zi 17 from rfl, zi_wr, Option.bind_some, zu_ne, cq_P hAt, cq_D hAt]
  rw [zo_hFt hW (zu_w91 (zu_w91 (zu_w91 hAt))) hf, Option.bind_some, if_neg (by decide), zo_nameF hW (zu_w91 (zu_w91 (zu_w91 hAt))) hf, Option.bind_some]
  rw [zo_hHf hW (zu_w91 (zu_w91 (zu_w91 (zu_w91 (zu_w91 (zu_w91 (zu_w91 (zu_w91 (zu_w91 (zu_w91 hAt)))))))))) (zin_m (by omega)), Option.bind_some, if_pos rfl]
  refine ⟨_, rfl, zfo_w91 (zfo_w91 (zfo_w91 (zfo_w91 (zfo_w91 (zfo_w91 (zfo_w91 (zfo_w91 (zfo_w91 (zfo_w91 ht))))))))), fun k hk => ?_⟩
  rw [zu_id, zu_id, zu_id, zu_id, zu_id, zu_id, zu_id, zu_id, zu_id, zu_id]
  unfold zNf zN0
  rw [hz k hk]
theorem zo_wishMet {M m s : yb_S} (hW : zW M) (hA : zA M m s) {f : Nat} {t : Int32} (hf : f < nF M) : f_X8_wishMet (zi f) t s = some (zb (M.1 199 f == t)) := by
  have h8 := zw_F8 hW
  unfold f_X8_wishMet
  rw [zi_rd (by omega) (by omega), Option.bind_some, cq_33 hA hf, zc_b]
  by_cases h : M.1 199 f = t
  · rw [if_pos h, decide_eq_true h]
    rfl
  · rw [if_neg h, decide_eq_false h]
    rfl
theorem zo_wants {M m s : yb_S} (hW : zW M) (hA : zA M m s) {f t : Nat} (ht : t < nT M) : f_X10_wants (zi t) (M.1 193 f) s = some (zb (zWant M t f)) := by
  have h9 := zw_T8 hW
  unfold f_X10_wants zWant
  rw [cq_T hA, zw_T hW, if_neg (by rw [zi_neg (by omega)]; exact id), if_neg (by rw [zi_le (by omega) (by omega)]; omega), zi_rd (by omega) (by omega), Option.bind_some, cq_6 hA ht, zc_b]
  by_cases h : (M.1 180 t >>> (M.1 193 f &&& 31)) &&& 1 = 1
  · rw [if_pos h, decide_eq_true h]
    rfl
  · rw [if_neg h, decide_eq_false h]
    rfl
theorem zo_miles {M m s : yb_S} (hW : zW M) (hA : zA M m s) {t w : Nat} (ht : t < nT M) (hw : w < nT M) : f_X10_milesBetween (zi t) (zi w) s = some (zabs (M.1 177 t - M.1 177 w)) := by
  have h9 := zw_T8 hW
  unfold f_X10_milesBetween
  rw [zo_hTt hW hA ht, zo_hTt hW hA hw, Option.bind_some, if_neg (by decide), Option.bind_some, if_neg (by decide), zi_rd (by omega) (by omega), Option.bind_some, zi_rd (by omega) (by omega), Option.bind_some, cq_3 hA ht, cq_3 hA hw, zabs_eq]
theorem zo_milesW {M m s : yb_S} (hW : zW M) (hA : zA M m s) {t f : Nat} (ht : t < nT M) (hf : f < nF M) : f_X10_milesBetween (zi t) (M.1 199 f) s = some (zMl M f t) := by
  have h9 := zw_T8 hW
  unfold zMl
  rcases (zw_f hW hf).2.2.2.2.1 with e | ⟨w, hw, e⟩
  · unfold f_X10_milesBetween
    rw [e, if_pos (show (-1 : Int32) = zm from rfl), zo_hTt hW hA ht, zo_hTf hW hA (zin_m (by omega)), Option.bind_some, if_neg (by decide), Option.bind_some, if_pos rfl]
  · rw [e, if_neg (by rw [zi_eqm (by omega)]; exact id), zi_tn (by omega), zo_miles hW hA ht hw]
theorem zo_nameH {M m t : yb_S} (hW : zW M) (hA : zA M m t) {f h : Nat} (hf : f < nF M) (hh : h < nH M) : f_X8_nameHome (zi f) (zi h) t = some (yb_pI (yb_pI (yb_pI (yb_pI (yb_pI (yb_pI (yb_pI (yb_pI t 91 7 (zb (M.1 199 f == zi (zHt M h)))) 91 8 (zKinIn M f (zi (zHt M h)))) 91 9 (M.1 184 h)) 91 10 (M.1 185 h)) 91 11 (zMl M f (zHt M h))) 91 12 (M.1 179 (zHt M h) - zPup M (zi (zHt M h)) (zi f))) 91 13 (zb (zWant M (zHt M h) f))) 91 15 (zRooms M (zi (zHt M h)))) := by
  have h8 := zw_F8 hW
  have h9 := zw_H8 hW
  have h10 := zw_T8 hW
  obtain ⟨ht, et⟩ := zw_ht hW hh
  unfold f_X8_nameHome j_X8_nameHome_136
  rw [zi_rd (by omega) (by omega), Option.bind_some, cq_14 hA hh, et, zo_wishMet hW hA hf, Option.bind_some, show (7 : Int32) = zi 7 from rfl, zi_wr (by omega) (by omega), Option.bind_some]
  rw [zo_kinIn hW (zu_w91 hA) hf ht, Option.bind_some]
  simp (disch := omega) only [zl, zi_rd, zi_wr, Option.bind_some, zu_ne, cq_15 hA, cq_16 hA, cq_33 hA]
  rw [zo_milesW hW (zu_w91 (zu_w91 (zu_w91 (zu_w91 hA)))) ht hf, Option.bind_some]
  rw [zo_seatsFor hW (zu_w91 (zu_w91 (zu_w91 (zu_w91 (zu_w91 hA))))) hf ht, Option.bind_some]
  rw [cq_26 hA hf, zo_wants hW (zu_w91 (zu_w91 (zu_w91 (zu_w91 (zu_w91 (zu_w91 hA)))))) ht, Option.bind_some]
  cases zWant M (zHt M h) f
  · rw [if_pos (by rfl : zb false = zi 0), cq_8 hA (by omega)]
    rfl
  · rw [if_neg (by decide), cq_8 hA (by omega)]
    rfl
theorem zo_tellsH {M m s : yb_S} (hW : zW M) (hA : zA M m s) {c f h : Nat} (hc : c < 6) (hf : f < nF M) (hh : h < nH M) : zs_P (f_X8_tells (zi c) (zi f) (zi h) (-1) 0 s) (fun a => a.1 = zTell M c (zNh M f h) ∧ zfo s a.2) := by
  refine zo_tells hW hA hc fun rc t x6 hAt ht hz => ?_
  unfold f_X8_tells_28
  rw [if_pos (by decide)]
  simp (disch := omega) only [show (14 : Int32) = zi 14 from rfl, show (16 : Int32) = zi 16 from rfl, show (17 : Int32) = zi 17 from rfl, zi_wr, Option.bind_some, zu_ne, cq_P hAt, cq_D hAt]
  rw [zo_hFt hW (zu_w91 (zu_w91 (zu_w91 hAt))) hf, Option.bind_some, if_neg (by decide), zo_nameF hW (zu_w91 (zu_w91 (zu_w91 hAt))) hf, Option.bind_some]
  rw [zo_hHt hW (zu_w91 (zu_w91 (zu_w91 (zu_w91 (zu_w91 (zu_w91 (zu_w91 (zu_w91 (zu_w91 (zu_w91 hAt)))))))))) hh, Option.bind_some, if_neg (by decide), zo_nameH hW (zu_w91 (zu_w91 (zu_w91 (zu_w91 (zu_w91 (zu_w91 (zu_w91 (zu_w91 (zu_w91 (zu_w91 hAt)))))))))) hf hh, Option.bind_some]
  refine ⟨_, rfl, zfo_w91 (zfo_w91 (zfo_w91 (zfo_w91 (zfo_w91 (zfo_w91 (zfo_w91 (zfo_w91 (zfo_w91 (zfo_w91 (zfo_w91 (zfo_w91 (zfo_w91 (zfo_w91 (zfo_w91 (zfo_w91 (zfo_w91 (zfo_w91 ht))))))))))))))))), fun k hk => ?_⟩
  rw [zu_id, zu_id, zu_id, zu_id, zu_id, zu_id, zu_id, zu_id, zu_id, zu_id, zu_id, zu_id, zu_id, zu_id, zu_id, zu_id, zu_id, zu_id]
  unfold zNh zNf zN0
  rw [hz k hk]
theorem zo_tellsT {M m s : yb_S} (hW : zW M) (hA : zA M m s) {c t : Nat} (hc : c < 6) (ht : t < nT M) : zs_P (f_X8_tells (zi c) (-1) (-1) (zi t) 0 s) (fun a => a.1 = zTell M c (zNt M t) ∧ zfo s a.2) := by
  have h8 := zw_F8 hW
  have h10 := zw_T8 hW
  refine zo_tells hW hA hc fun rc u x6 hAt hu hz => ?_
  unfold f_X8_tells_28
  rw [if_pos (by decide)]
  simp (disch := omega) only [show (14 : Int32) = zi 14 from rfl, show (16 : Int32) = zi 16 from rfl, show (17 : Int32) = zi 17 from rfl, zi_wr, Option.bind_some, zu_ne, cq_P hAt, cq_D hAt]
  rw [zo_hFf hW (zu_w91 (zu_w91 (zu_w91 hAt))) (zin_m (by omega)), Option.bind_some, if_pos rfl, zo_hTt hW (zu_w91 (zu_w91 (zu_w91 hAt))) ht, Option.bind_some, if_neg (by decide)]
  simp (disch := omega) only [show (12 : Int32) = zi 12 from rfl, show (15 : Int32) = zi 15 from rfl, zi_rd, zi_wr, Option.bind_some, zu_ne, cq_5 hAt, zo_pup hAt, cq_8 hAt]
  refine ⟨_, rfl, zfo_w91 (zfo_w91 (zfo_w91 (zfo_w91 (zfo_w91 hu)))), fun k hk => ?_⟩
  simp (disch := omega) only [zu_id]
  unfold zNt zN0
  rw [hz k hk]
theorem zo_ahead {M m s : yb_S} (hW : zW M) (hA : zA M m s) {f : Nat} (hf : f < nF M) : zs_P (f_X8_aheadOf (zi f) s) (fun a => a.1 = zTell M 0 (zNf M f 0) ∧ zfo s a.2) := by
  unfold f_X8_aheadOf
  exact zs_bind (zo_tellsF hW hA (c := 0) (by decide) hf) fun a ha => zs_ret ha
theorem zo_limit {M m s : yb_S} (hW : zW M) (hA : zA M m s) {f : Nat} (hf : f < nF M) : zs_P (f_X8_limitOf (zi f) s) (fun a => a.1 = zTell M 2 (zNf M f 0) ∧ zfo s a.2) := by
  unfold f_X8_limitOf
  exact zs_bind (zo_tellsF hW hA (c := 2) (by decide) hf) fun a ha => zs_ret ha
theorem zo_lack {M m s : yb_S} (hW : zW M) (hA : zA M m s) {t : Nat} (ht : t < nT M) : zs_P (f_X8_lackOf (zi t) s) (fun a => a.1 = zLack M t ∧ zfo s a.2) := by
  have h10 := zw_T8 hW
  unfold f_X8_lackOf
  refine zs_bind (zo_tellsT hW hA (c := 1) (by decide) ht) fun a ha => ?_
  have hAa := zfo_A ha.2 hA
  rw [zi_rd (by omega) (by omega), Option.bind_some, cq_9 hAa (by omega), ha.1]
  exact zs_ret ⟨rfl, ha.2⟩
