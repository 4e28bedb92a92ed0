/-! the names a clause is asked with -/
def zN0 (M : yb_S) (own : Int32) : Nat → Int32 := fun k => if k = 17 then own else if k = 16 then M.1 176 7 else if k = 14 then zThere M else 0
def zNf (M : yb_S) (f : Nat) (own : Int32) : Nat → Int32 := fun k => if k = 6 then M.1 197 f else if k = 5 then M.1 194 f else if k = 4 then M.1 193 f else if k = 3 then M.1 192 f else if k = 2 then M.1 191 f else if k = 1 then M.1 190 f else if k = 0 then M.1 189 f else zN0 M own k
def zMl (M : yb_S) (f t : Nat) : Int32 := if M.1 199 f = zm then 0 else zabs (M.1 177 t - M.1 177 (M.1 199 f).toNatClampNeg)
def zWant (M : yb_S) (t f : Nat) : Bool := (M.1 180 t >>> (M.1 193 f &&& 31)) &&& 1 == 1
def zHt (M : yb_S) (h : Nat) : Nat := (M.1 183 h).toNatClampNeg
def zNh (M : yb_S) (f h : Nat) : Nat → Int32 := fun k => if k = 15 then zRooms M (zi (zHt M h)) else if k = 13 then zb (zWant M (zHt M h) f) else if k = 12 then M.1 179 (zHt M h) - zPup M (zi (zHt M h)) (zi f) else if k = 11 then zMl M f (zHt M h) else if k = 10 then M.1 185 h else if k = 9 then M.1 184 h else if k = 8 then zKinIn M f (zi (zHt M h)) else if k = 7 then zb (M.1 199 f == zi (zHt M h)) else zNf M f 0 k
def zNt (M : yb_S) (t : Nat) : Nat → Int32 := fun k => if k = 15 then zRooms M (zi t) else if k = 12 then M.1 179 t - zPup M (zi t) zm else zN0 M 0 k
def zfn (s t : yb_S) : Prop := (∀ id, id ≠ 337 → t.1 id = s.1 id) ∧ t.2 = s.2
theorem zfn_w {s t : yb_S} (h : zfn s t) {k : Nat} {x : Int32} : zfn s (yb_pI t 337 k x) := ⟨fun id q => (zu_nef q).trans (h.1 id q), h.2⟩
theorem zfn_G {s t : yb_S} (h : zfn s t) : zG s t := by
  refine ⟨⟨fun id k _ h2 _ _ => by rw [h.1 id h2], h.2⟩, zC_congr (fun a q1 q2 => h.1 a (by omega)) ?_ ?_ ?_ ?_⟩ <;> rw [h.1 176 (by decide)]
theorem zw_ht {M : yb_S} (hW : zW M) {h : Nat} (hh : h < nH M) : zHt M h < nT M ∧ M.1 183 h = zi (zHt M h) := by
  obtain ⟨t, ht, e⟩ := (zw_h hW hh).1
  have h8 := zw_T8 hW
  unfold zHt
  rw [e, zi_tn (by omega)]
  exact ⟨ht, rfl⟩
theorem zm_clears {M o s : yb_S} (hW : zW M) (hQ : zQ M o s) : zs_P (f_X12_clears s) (fun u => (∀ k, k < 18 → u.1 337 k = zN0 M 0 k) ∧ zfn s u) := by
  unfold f_X12_clears l_X12_clears_2
  refine zs_up (fun k q => q.1 = zi k ∧ (∀ j, j < k → q.2.1 337 j = 0) ∧ zfn s q.2) 18 ?_ yb_N 0 _ (Nat.zero_le _) (by decide) ⟨rfl, fun j hj => absurd hj (Nat.not_lt_zero _), ⟨fun _ _ => rfl, rfl⟩⟩
  rintro k ⟨x, u⟩ rc hk ⟨i1, i2, i3⟩ hn
  dsimp only at i1 i2 i3
  subst i1
  show zs_P (f_X12_clears_2 (fun x1 s => rc (x1, s)) (zi k) u) _
  unfold f_X12_clears_2
  rcases Nat.lt_or_ge k 18 with hlt | hge
  · rw [show (18 : Int32) = zi 18 from rfl, if_neg (by rw [zi_le (by omega) (by omega)]; omega), zi_wr (by omega) (by omega), Option.bind_some, zi_succ]
    refine hn hlt _ ⟨rfl, fun j hj => ?_, zfn_w i3⟩
    rw [zu_id]
    by_cases e : j = k
    · rw [if_pos e]
    · rw [if_neg e]
      exact i2 j (by omega)
  · have hkl := Nat.le_antisymm hk hge
    subst hkl
    have hQu := zG_Q (zfn_G i3) hQ
    rw [if_pos (by decide), zm_there hW hQu]
    simp (disch := omega) only [zqk hQu, ↓zmd, zl, zi_div, zi_rem, zi_lt, zi_le, zi_inj, zi_add, zi_sub, zi_addm, zi_eqm, zi_meq, zi_mlt, zi_ltm, zi_lem, zi_mle, zi_tn, zi_rd, zi_wr, zi_rl, zi_wl, zi_ri, zu_ne, zu_nef, zu_eq, zu_id, zu_rl, zu_rdL, zu_neL, zu_idL, Option.bind_some, ↓reduceIte, Nat.reduceEqDiff, if_pos, if_neg]
    refine zs_ret ⟨fun k hk => ?_, zfn_w (zfn_w i3)⟩
    have hk18 : k = 0 ∨ k = 1 ∨ k = 2 ∨ k = 3 ∨ k = 4 ∨ k = 5 ∨ k = 6 ∨ k = 7 ∨ k = 8 ∨ k = 9 ∨ k = 10 ∨ k = 11 ∨ k = 12 ∨ k = 13 ∨ k = 14 ∨ k = 15 ∨ k = 16 ∨ k = 17 := by omega
    rcases hk18 with h | h | h | h | h | h | h | h | h | h | h | h | h | h | h | h | h | h <;> subst h
    all_goals (simp (disch := omega) only [zu_id, zN0, ↓reduceIte, Nat.reduceEqDiff, i2] <;> rfl)
theorem zm_asksOf {M o s : yb_S} (hW : zW M) (hQ : zQ M o s) {f : Nat} (hf : f < nF M) : zs_P (f_X12_asksOf (zi f) s) (fun u => (∀ k, k < 18 → u.1 337 k = zNf M f 0 k) ∧ zfn s u) := by
  have h8 := zw_F8 hW
  unfold f_X12_asksOf
  refine zs_bind (zm_clears hW hQ) fun u hu => ?_
  have hQu := zG_Q (zfn_G hu.2) hQ
  simp (disch := omega) only [zl, zi_rd, zi_wr, Option.bind_some, zu_ne, zq hQu]
  refine zs_ret ⟨fun k hk => ?_, zfn_w (zfn_w (zfn_w (zfn_w (zfn_w (zfn_w (zfn_w hu.2))))))⟩
  simp (disch := omega) only [zu_id]
  unfold zNf
  rw [hu.1 k hk]
  rfl
theorem zm_askedOf {M o s : yb_S} (hW : zW M) (hQ : zQ M o s) {f c : Nat} (hf : f < nF M) (hc : c < 6) : zs_P (f_X12_askedOf (zi f) (zi c) s) (fun a => a.1 = zTell M c (zNf M f 0) ∧ zG s a.2) := by
  unfold f_X12_askedOf
  refine zs_bind (zm_asksOf hW hQ hf) fun u hu => ?_
  have hQu := zG_Q (zfn_G hu.2) hQ
  refine zs_bind (zm_tells hW hQu hc hu.1) fun a ha => ?_
  exact zs_ret ⟨ha.1, zG_trans (zfn_G hu.2) (zfs_G ha.2)⟩
theorem zif_b {α : Type} {c : Prop} [Decidable c] (F : Int32 → α) : (if c then F (zi 1) else F (zi 0)) = F (zb (decide c)) := by
  by_cases h : c
  · rw [if_pos h, decide_eq_true h]
    rfl
  · rw [if_neg h, decide_eq_false h]
    rfl
theorem zm_wants {M o s : yb_S} (hW : zW M) (hQ : zQ M o s) {f t : Nat} (hf : f < nF M) (ht : t < nT M) : f_X12_wants (zi t) (zi f) s = some (zb (zWant M t f)) := by
  have h8 := zw_F8 hW
  have h9 := zw_T8 hW
  unfold f_X12_wants zWant
  simp (disch := omega) only [zi_rd, Option.bind_some, zq hQ, zc_b]
  by_cases h : (M.1 180 t >>> (M.1 193 f &&& 31)) &&& 1 = 1
  · rw [if_pos h, decide_eq_true h]
    rfl
  · rw [if_neg h, decide_eq_false h]
    rfl
theorem zK_w {s t : yb_S} (h : zG s t) {k : Nat} {x : Int32} : zG s (yb_pI t 337 k x) := zG_trans h (zG_w (Or.inl rfl))
theorem zm_asksOf_ {M o s : yb_S} (hW : zW M) (hQ : zQ M o s) {f h : Nat} (hf : f < nF M) (hh : h < nH M) : zs_P (f_X12_asksOf_ (zi f) (zi h) s) (fun u => (∀ k, k < 18 → u.1 337 k = zNh M f h k) ∧ zG s u) := by
  have h8 := zw_F8 hW
  have h9 := zw_H8 hW
  have h10 := zw_T8 hW
  obtain ⟨ht, et⟩ := zw_ht hW hh
  unfold f_X12_asksOf_
  refine zs_bind (zm_asksOf hW hQ hf) fun u hu => ?_
  have hQu := zG_Q (zfn_G hu.2) hQ
  simp (disch := omega) only [zi_rd, Option.bind_some, zq hQu, et, show (1 : Int32) = zi 1 from rfl, show (0 : Int32) = zi 0 from rfl, show (7 : Int32) = zi 7 from rfl]
  rw [zif_b (fun y => j_X12_asksOf__33 (zi f) (zi h) (zi (zHt M h)) y (zi 7) u)]
  unfold j_X12_asksOf__33
  rw [zi_wr (by omega) (by omega), Option.bind_some]
  have hG1 : zG s (yb_pI u 337 7 (zb (decide (M.1 199 f = zi (zHt M h))))) := zK_w (zfn_G hu.2)
  refine zs_bind (zm_kinIn hW (zG_Q hG1 hQ) hf) fun a ha => ?_
  have hG2 : zG s a.2 := zG_trans hG1 (zK_G ha.2)
  have hQa := zG_Q hG2 hQ
  have hna : ∀ k, k < 18 → a.2.1 337 k = if k = 7 then zb (M.1 199 f == zi (zHt M h)) else zNf M f 0 k := fun k hk => by
    rw [ha.2.1.1 337 k (by omega) (by omega), zu_id, hu.1 k hk]
    rfl
  rw [ha.1]
  have key : ∀ (ml : Int32), ml = zMl M f (zHt M h) → zs_P (j_X12_asksOf__114 (zi f) (zi (zHt M h)) ml (11 : Int32) (yb_pI (yb_pI (yb_pI a.2 337 8 (zKinIn M f (zi (zHt M h)))) 337 9 (M.1 184 h)) 337 10 (M.1 185 h))) (fun u => (∀ k, k < 18 → u.1 337 k = zNh M f h k) ∧ zG s u) := by
    intro ml hml
    have hG3 : zG s (yb_pI (yb_pI (yb_pI (yb_pI a.2 337 8 (zKinIn M f (zi (zHt M h)))) 337 9 (M.1 184 h)) 337 10 (M.1 185 h)) 337 11 ml) := zK_w (zK_w (zK_w (zK_w hG2)))
    unfold j_X12_asksOf__114 j_X12_asksOf__155
    rw [show (11 : Int32) = zi 11 from rfl, zi_wr (by omega) (by omega), Option.bind_some]
    generalize hv : yb_pI (yb_pI (yb_pI (yb_pI a.2 337 8 (zKinIn M f (zi (zHt M h)))) 337 9 (M.1 184 h)) 337 10 (M.1 185 h)) 337 11 ml = v at *
    have hQv := zG_Q hG3 hQ
    rw [zm_pupilsIn hW hQv]
    rw [zi_rd (by omega) (by omega), zq hQv (by omega), Option.bind_some, Option.bind_some, show (12 : Int32) = zi 12 from rfl, zi_wr (by omega) (by omega), Option.bind_some]
    have hG4 : zG s (yb_pI v 337 12 (M.1 179 (zHt M h) - zPup M (zi (zHt M h)) (zi f))) := zK_w hG3
    rw [zm_wants hW (zG_Q hG4 hQ) hf ht, Option.bind_some]
    have e13 : ∀ (b : Bool) (x : Int32) (F : Int32 → Option yb_S), (if zb b = 0 then F 0 else F 1) = F (zb b) := by
      intro b x F
      cases b <;> rfl
    rw [e13 _ 0 (fun y => (yb_wr (yb_pI v 337 12 (M.1 179 (zHt M h) - zPup M (zi (zHt M h)) (zi f))) 337 18 13 y).bind fun s29 => (f_X12_roomsIn (zi (zHt M h)) s29).bind fun q30 => (yb_wr s29 337 18 (15 : Int32) q30).bind fun s32 => some s32)]
    rw [show (13 : Int32) = zi 13 from rfl, zi_wr (by omega) (by omega), Option.bind_some]
    have hG5 := zK_w (k := 13) (x := zb (zWant M (zHt M h) f)) hG4
    rw [zm_roomsIn hW (zG_Q hG5 hQ), Option.bind_some, show (15 : Int32) = zi 15 from rfl, zi_wr (by omega) (by omega), Option.bind_some]
    refine zs_ret ⟨fun k hk => ?_, zK_w hG5⟩
    rw [← hv]
    simp (disch := omega) only [zu_id]
    unfold zNh
    rw [hna k hk, hml]
  simp (disch := omega) only [zl, zi_rd, zi_wr, Option.bind_some, zu_ne, zq hQa, ↓zmd]
  rcases (zw_f hW hf).2.2.2.2.1 with e | ⟨w, hw, e⟩
  · rw [e, if_pos (show (-1 : Int32) = zm from rfl)]
    exact key 0 (by unfold zMl; rw [e, if_pos (show (-1 : Int32) = zm from rfl)])
  · rw [e, if_neg (by rw [zi_eqm (by omega)]; exact id)]
    simp (disch := omega) only [zi_rd, Option.bind_some, zu_ne, zq hQa, zm_size]
    exact key _ (by unfold zMl; rw [e, if_neg (by rw [zi_eqm (by omega)]; exact id), zi_tn (by omega)])
theorem zm_shareOf {M o s : yb_S} (hW : zW M) (hQ : zQ M o s) {t : Nat} (ht : t < nT M) : zs_P (f_X12_shareOf (zi t) s) (fun a => a.1 = zTell M 1 (zNt M t) ∧ zG s a.2) := by
  have h10 := zw_T8 hW
  unfold f_X12_shareOf
  refine zs_bind (zm_clears hW hQ) fun u hu => ?_
  have hG1 := zfn_G hu.2
  have hQu := zG_Q hG1 hQ
  rw [zm_pupilsIn hW hQu, zi_rd (by omega) (by omega), zq hQu (by omega), Option.bind_some, Option.bind_some, show (12 : Int32) = zi 12 from rfl, zi_wr (by omega) (by omega), Option.bind_some]
  have hG2 : zG s (yb_pI u 337 12 (M.1 179 t - zPup M (zi t) (-1))) := zK_w hG1
  rw [zm_roomsIn hW (zG_Q hG2 hQ), Option.bind_some, show (15 : Int32) = zi 15 from rfl, zi_wr (by omega) (by omega), Option.bind_some]
  have hG3 := zK_w (k := 15) (x := zRooms M (zi t)) hG2
  refine zs_bind (zm_tells hW (zG_Q hG3 hQ) (c := 1) (nm := zNt M t) (by decide) (fun k hk => ?_)) fun a ha => ?_
  · simp (disch := omega) only [zu_id]
    unfold zNt
    rw [hu.1 k hk]
    rfl
  · exact zs_ret ⟨ha.1, zG_trans hG3 (zfs_G ha.2)⟩
def zLack (M : yb_S) (t : Nat) : Int32 := zTell M 1 (zNt M t) - zHeads M (zi t)
theorem zm_lackOf {M o s : yb_S} (hW : zW M) (hQ : zQ M o s) {t : Nat} (ht : t < nT M) : zs_P (f_X12_lackOf (zi t) s) (fun a => a.1 = zLack M t ∧ zG s a.2) := by
  unfold f_X12_lackOf
  refine zs_bind (zm_shareOf hW hQ ht) fun a ha => ?_
  rw [zm_headsIn hW (zG_Q ha.2 hQ), Option.bind_some, ha.1]
  exact zs_ret ⟨rfl, ha.2⟩
