/-! sheet: both run -/
theorem zo_enact {M m u w : yb_S} (hW : zW M) (hA : zA M m u) (hy : (zFy M).1 = true) (h10 : nS M < 10) (hu : ztc (zS (zTx M) (nX M)) w u (zFy M)) : zs_P (f_X5_enact_92 (M.1 176 7) u) (fun a => a.1 = zi (nS M) ∧ zA (zSh M) m (yb_pI a.2 92 0 0)) := by
  have e54 : u.1 54 0 = zi (nS M) := by rw [cq_S hA]; exact zw_S hW
  obtain ⟨h1, h2, h3, h4, ⟨cc, hcc, h5⟩, h6⟩ := hu
  have eb := (h6 hy).1
  have hu : ztc (zS (zTx M) (nX M)) w u (zFy M) := ⟨h1, h2, h3, h4, ⟨cc, hcc, h5⟩, h6⟩
  have hccb : (zFy M).2.2.1 ≤ 500 := by
    obtain ⟨mm, hmm, hS1, hS2⟩ := zS_ex (T := zTx M) (n := nX M)
    have h8 := zw_X8 hW
    have h := (ztF_e (zpW_ok h8 hmm hS1 hS2)).1
    have h2 := (h.2 hy).1
    have h3 := h.1
    exact Nat.le_trans h2 (by show (ztF _ _).2.1 ≤ 500; omega)
  unfold f_X5_enact_92
  rw [e54, if_pos (by rw [show (10 : Int32) = zi 10 from rfl, zi_lt (by omega) (by omega)]; exact h10)]
  unfold l_X5_enact_92_13
  refine zs_up (fun k a => a.1 = zi k ∧ (∀ id k, id ≠ 58 + nS M → a.2.1 id k = u.1 id k) ∧ a.2.2 = u.2 ∧ ∀ j, j < k → a.2.1 (58 + nS M) j = u.1 93 j) (zFy M).2.2.1 ?_ yb_N 0 _ (Nat.zero_le _) (by unfold yb_N; omega) (by exact ⟨rfl, fun _ _ _ => rfl, rfl, fun j hj => absurd hj (Nat.not_lt_zero _)⟩)
  rintro k ⟨x, v⟩ rc hk ⟨i1, i2, i3, i4⟩ hnx
  dsimp only at i1 i2 i3 i4
  subst i1
  show zs_P (f_X5_enact_92_13 (fun x3 s => rc (x3, s)) (M.1 176 7) (zi k) v) _
  have v2 : v.1 92 2 = zi (zFy M).2.2.1 := by rw [i2 92 2 (by omega)]; exact eb
  have v54 : v.1 54 0 = zi (nS M) := by rw [i2 54 0 (by omega)]; exact e54
  unfold f_X5_enact_92_13
  rw [v2]
  rcases Nat.lt_or_ge k (zFy M).2.2.1 with hlt | hge
  · rw [if_neg (by rw [zi_le (by omega) (by omega)]; omega), if_neg (by rw [show (500 : Int32) = zi 500 from rfl, zi_le (by omega) (by omega)]; omega), v54, zi_ri h10 (by omega), Option.bind_some, zi_rd (by omega) (by omega), Option.bind_some, show 58 + 1 * nS M = 58 + nS M by omega, zi_wr (by omega) (by omega), Option.bind_some, zi_succ]
    refine hnx hlt _ ⟨rfl, fun id j q => ?_, i3, fun j hj => ?_⟩
    · dsimp only
      rw [zu_ne q]
      exact i2 id j q
    · dsimp only
      by_cases e : j = k
      · rw [e, zu_eq]
        exact i2 93 k (by omega)
      · rw [zu_col e]
        exact i4 j (by omega)
  · have e6 := Nat.le_antisymm hk hge
    rw [if_pos (by rw [zi_le (by omega) (by omega)]; exact hge)]
    unfold j_X5_enact_92_51 l_X5_enact_92_53
    refine zs_up (fun c a => a.1 = zi c ∧ (∀ id k, id ≠ 69 + nS M → id ≠ 80 + nS M → a.2.1 id k = v.1 id k) ∧ a.2.2 = v.2 ∧ ∀ j, j < c → a.2.1 (69 + nS M) j = u.1 94 j ∧ a.2.1 (80 + nS M) j = u.1 95 j) 6 ?_ yb_N 0 _ (Nat.zero_le _) (by decide) (by exact ⟨rfl, fun _ _ _ _ => rfl, rfl, fun j hj => absurd hj (Nat.not_lt_zero _)⟩)
    rintro c ⟨x, z⟩ rd hc ⟨j1, j2, j3, j4⟩ hm
    dsimp only at j1 j2 j3 j4
    subst j1
    show zs_P (f_X5_enact_92_53 (fun x3 s => rd (x3, s)) (M.1 176 7) (zi c) z) _
    have z54 : z.1 54 0 = zi (nS M) := by rw [j2 54 0 (by omega) (by omega)]; exact v54
    have zu : ∀ id k, id ≠ 58 + nS M → id ≠ 69 + nS M → id ≠ 80 + nS M → z.1 id k = u.1 id k := fun id k q1 q2 q3 => (j2 id k q2 q3).trans (i2 id k q1)
    unfold f_X5_enact_92_53
    rcases Nat.lt_or_ge c 6 with hlt6 | hge6
    · have e1 : (yb_pI z (69 + nS M) c (z.1 94 c)).1 54 0 = zi (nS M) := by rw [zu_ne (by omega)]; exact z54
      rw [if_neg (by rw [show (6 : Int32) = zi 6 from rfl, zi_le (by omega) (by omega)]; omega), z54, zi_ri h10 (by omega), Option.bind_some, zi_rd hlt6 (by omega), Option.bind_some, show 69 + 1 * nS M = 69 + nS M by omega, zi_wr hlt6 (by omega), Option.bind_some, e1, zi_ri h10 (by omega), Option.bind_some, zi_rd hlt6 (by omega), Option.bind_some, show 80 + 1 * nS M = 80 + nS M by omega, zi_wr hlt6 (by omega), Option.bind_some, zi_succ]
      refine hm hlt6 _ ⟨rfl, fun id j q1 q2 => ?_, j3, fun j hj => ⟨?_, ?_⟩⟩
      · dsimp only
        rw [zu_ne q2, zu_ne q1]
        exact j2 id j q1 q2
      · dsimp only
        rw [zu_ne (by omega)]
        by_cases e : j = c
        · rw [e, zu_eq]
          exact zu 94 c (by omega) (by omega) (by omega)
        · rw [zu_col e]
          exact (j4 j (by omega)).1
      · dsimp only
        by_cases e : j = c
        · rw [e, zu_eq, zu_ne (by omega)]
          exact zu 95 c (by omega) (by omega) (by omega)
        · rw [zu_col e, zu_ne (by omega)]
          exact (j4 j (by omega)).2
    · have e6 : c = 6 := Nat.le_antisymm hc hge6
      subst e6
      have e1 : (yb_pI z 55 (nS M) (M.1 176 7)).1 54 0 = zi (nS M) := by rw [zu_ne (by omega)]; exact z54
      have e2 : (yb_pI (yb_pI z 55 (nS M) (M.1 176 7)) 56 (nS M) (-1)).1 54 0 = zi (nS M) := by rw [zu_ne (by omega)]; exact e1
      rw [if_pos (by decide), z54, zi_wr h10 (by omega), Option.bind_some, e1, zi_wr h10 (by omega), Option.bind_some, e2, Option.bind_some, zi_succ, zu_eq]
      refine zs_ret ⟨?_, ?_⟩
      · show zi (nS M + 1) - 1 = zi (nS M)
        rw [show (1 : Int32) = zi 1 from rfl, zi_sub (by omega), Nat.add_sub_cancel]
      · dsimp only
        refine zSh_R hW hA hy h10 hu (fun id k q1 q2 q3 q4 q5 q6 q7 => ?_) (j3.trans i3) ?_ zu_eq ?_ ?_ (fun j hj => ⟨?_, ?_⟩) (fun j hj _ => ?_)
        · by_cases e92 : id = 92
          · subst e92
            rw [zu_id, if_neg (by omega), zu_ne (by omega), zu_ne (by omega), zu_ne (by omega)]
            exact zu 92 k q3 q4 q5
          · rw [zu_ne e92]
            by_cases e54 : id = 54
            · subst e54
              rw [zu_id, if_neg (by omega), zu_ne (by omega), zu_ne (by omega)]
              exact zu 54 k q3 q4 q5
            · rw [zu_ne e54]
              by_cases e56 : id = 56
              · subst e56
                rw [zu_col (by omega), zu_ne (by omega)]
                exact zu 56 k q3 q4 q5
              · rw [zu_ne e56]
                by_cases e55 : id = 55
                · subst e55
                  rw [zu_col (by omega)]
                  exact zu 55 k q3 q4 q5
                · rw [zu_ne e55]
                  exact zu id k q3 q4 q5
        · rw [zu_ne (by omega), zu_eq]
        · rw [zu_ne (by omega), zu_ne (by omega), zu_ne (by omega), zu_eq]
        · rw [zu_ne (by omega), zu_ne (by omega), zu_eq]
        · rw [zu_ne (by omega), zu_ne (by omega), zu_ne (by omega), zu_ne (by omega)]
          exact (j4 j hj).1
        · rw [zu_ne (by omega), zu_ne (by omega), zu_ne (by omega), zu_ne (by omega)]
          exact (j4 j hj).2
        · rw [zu_ne (by omega), zu_ne (by omega), zu_ne (by omega), zu_ne (by omega), j2 (58 + nS M) j (by omega) (by omega)]
          exact i4 j (by omega)
/-- the reference's sheet, half written -/
def zSq (M : yb_S) (a b x : Nat) : yb_S := (fun id k => if id = 176 ∧ k = 44 then 0 else if id = 322 + nS M ∧ k < a then zi (zSl M k) else if 245 + 7 * nS M ≤ id ∧ id < 251 + 7 * nS M ∧ ((id < 245 + 7 * nS M + b ∧ k < 2 * zSl M (id - (245 + 7 * nS M))) ∨ (id = 245 + 7 * nS M + b ∧ k < x)) then zSc M (id - (245 + 7 * nS M)) k else M.1 id k, M.2)
theorem zSq_0 {M : yb_S} : yb_pI M 176 44 0 = zSq M 0 0 0 := by
  apply Prod.ext
  · funext id k
    rw [zu_rd]
    show _ = (if id = 176 ∧ k = 44 then 0 else if id = 322 + nS M ∧ k < 0 then zi (zSl M k) else if 245 + 7 * nS M ≤ id ∧ id < 251 + 7 * nS M ∧ ((id < 245 + 7 * nS M + 0 ∧ k < 2 * zSl M (id - (245 + 7 * nS M))) ∨ (id = 245 + 7 * nS M + 0 ∧ k < 0)) then zSc M (id - (245 + 7 * nS M)) k else M.1 id k)
    by_cases e : id = 176
    · rw [if_pos e]
      by_cases e2 : k = 44
      · rw [if_pos e2, if_pos ⟨e, e2⟩]
      · rw [if_neg e2, if_neg (by omega), if_neg (by omega), if_neg (by omega)]
    · rw [if_neg e, if_neg (by omega), if_neg (by omega), if_neg (by omega)]
  · rfl
theorem zSq_l {M : yb_S} (h10 : nS M < 10) {c : Nat} (hc : c < 6) : yb_pI (zSq M c c 0) (322 + nS M) c (zi (zSl M c)) = zSq M (c + 1) c 0 := by
  apply Prod.ext
  · funext id k
    rw [zu_rd]
    show (if id = 322 + nS M then (if k = c then zi (zSl M c) else (if id = 176 ∧ k = 44 then 0 else if id = 322 + nS M ∧ k < c then zi (zSl M k) else if 245 + 7 * nS M ≤ id ∧ id < 251 + 7 * nS M ∧ ((id < 245 + 7 * nS M + c ∧ k < 2 * zSl M (id - (245 + 7 * nS M))) ∨ (id = 245 + 7 * nS M + c ∧ k < 0)) then zSc M (id - (245 + 7 * nS M)) k else M.1 id k)) else (if id = 176 ∧ k = 44 then 0 else if id = 322 + nS M ∧ k < c then zi (zSl M k) else if 245 + 7 * nS M ≤ id ∧ id < 251 + 7 * nS M ∧ ((id < 245 + 7 * nS M + c ∧ k < 2 * zSl M (id - (245 + 7 * nS M))) ∨ (id = 245 + 7 * nS M + c ∧ k < 0)) then zSc M (id - (245 + 7 * nS M)) k else M.1 id k)) = (if id = 176 ∧ k = 44 then 0 else if id = 322 + nS M ∧ k < c + 1 then zi (zSl M k) else if 245 + 7 * nS M ≤ id ∧ id < 251 + 7 * nS M ∧ ((id < 245 + 7 * nS M + c ∧ k < 2 * zSl M (id - (245 + 7 * nS M))) ∨ (id = 245 + 7 * nS M + c ∧ k < 0)) then zSc M (id - (245 + 7 * nS M)) k else M.1 id k)
    by_cases e : id = 322 + nS M
    · rw [if_pos e, if_neg (show ¬ (id = 176 ∧ k = 44) by omega), if_neg (show ¬ (id = 176 ∧ k = 44) by omega)]
      by_cases e2 : k = c
      · rw [if_pos e2, if_pos ⟨e, by omega⟩, e2]
      · rw [if_neg e2]
        by_cases e3 : k < c
        · rw [if_pos ⟨e, e3⟩, if_pos ⟨e, by omega⟩]
        · rw [if_neg (show ¬ (id = 322 + nS M ∧ k < c) by omega), if_neg (show ¬ (id = 322 + nS M ∧ k < c + 1) by omega)]
    · rw [if_neg e]
      by_cases e4 : id = 176 ∧ k = 44
      · rw [if_pos e4, if_pos e4]
      · rw [if_neg e4, if_neg e4, if_neg (show ¬ (id = 322 + nS M ∧ k < c) by omega), if_neg (show ¬ (id = 322 + nS M ∧ k < c + 1) by omega)]
  · rfl
theorem zSq_c {M : yb_S} (h10 : nS M < 10) {c x : Nat} (hc : c < 6) : yb_pI (zSq M (c + 1) c x) (245 + 7 * nS M + c) x (zSc M c x) = zSq M (c + 1) c (x + 1) := by
  apply Prod.ext
  · funext id k
    rw [zu_rd]
    have e0 : ∀ x, (zSq M (c + 1) c x).1 id k = (if id = 176 ∧ k = 44 then 0 else if id = 322 + nS M ∧ k < c + 1 then zi (zSl M k) else if 245 + 7 * nS M ≤ id ∧ id < 251 + 7 * nS M ∧ ((id < 245 + 7 * nS M + c ∧ k < 2 * zSl M (id - (245 + 7 * nS M))) ∨ (id = 245 + 7 * nS M + c ∧ k < x)) then zSc M (id - (245 + 7 * nS M)) k else M.1 id k) := fun _ => rfl
    rw [e0, e0]
    by_cases e : id = 245 + 7 * nS M + c
    · rw [if_pos e, if_neg (show ¬ (id = 176 ∧ k = 44) by omega), if_neg (show ¬ (id = 322 + nS M ∧ k < c + 1) by omega), if_neg (show ¬ (id = 176 ∧ k = 44) by omega), if_neg (show ¬ (id = 322 + nS M ∧ k < c + 1) by omega)]
      by_cases e2 : k = x
      · rw [if_pos e2, if_pos ⟨by omega, by omega, Or.inr ⟨e, by omega⟩⟩, e2, show id - (245 + 7 * nS M) = c by omega]
      · rw [if_neg e2]
        by_cases e3 : k < x
        · rw [if_pos ⟨by omega, by omega, Or.inr ⟨e, e3⟩⟩, if_pos ⟨by omega, by omega, Or.inr ⟨e, by omega⟩⟩]
        · rw [if_neg (show ¬ (245 + 7 * nS M ≤ id ∧ id < 251 + 7 * nS M ∧ ((id < 245 + 7 * nS M + c ∧ k < 2 * zSl M (id - (245 + 7 * nS M))) ∨ (id = 245 + 7 * nS M + c ∧ k < x))) by omega), if_neg (show ¬ (245 + 7 * nS M ≤ id ∧ id < 251 + 7 * nS M ∧ ((id < 245 + 7 * nS M + c ∧ k < 2 * zSl M (id - (245 + 7 * nS M))) ∨ (id = 245 + 7 * nS M + c ∧ k < x + 1))) by omega)]
    · rw [if_neg e]
      have e5 : (245 + 7 * nS M ≤ id ∧ id < 251 + 7 * nS M ∧ ((id < 245 + 7 * nS M + c ∧ k < 2 * zSl M (id - (245 + 7 * nS M))) ∨ (id = 245 + 7 * nS M + c ∧ k < x))) = (245 + 7 * nS M ≤ id ∧ id < 251 + 7 * nS M ∧ ((id < 245 + 7 * nS M + c ∧ k < 2 * zSl M (id - (245 + 7 * nS M))) ∨ (id = 245 + 7 * nS M + c ∧ k < x + 1))) := propext ⟨fun q => ⟨q.1, q.2.1, q.2.2.imp (fun p => p) fun p => absurd p.1 e⟩, fun q => ⟨q.1, q.2.1, q.2.2.imp (fun p => p) fun p => absurd p.1 e⟩⟩
      simp only [e5]
  · rfl
theorem zSq_n {M : yb_S} (h10 : nS M < 10) {c : Nat} (hc : c < 6) : zSq M (c + 1) c (2 * zSl M c) = zSq M (c + 1) (c + 1) 0 := by
  apply Prod.ext
  · funext id k
    show (if id = 176 ∧ k = 44 then 0 else if id = 322 + nS M ∧ k < c + 1 then zi (zSl M k) else if 245 + 7 * nS M ≤ id ∧ id < 251 + 7 * nS M ∧ ((id < 245 + 7 * nS M + c ∧ k < 2 * zSl M (id - (245 + 7 * nS M))) ∨ (id = 245 + 7 * nS M + c ∧ k < 2 * zSl M c)) then zSc M (id - (245 + 7 * nS M)) k else M.1 id k) = (if id = 176 ∧ k = 44 then 0 else if id = 322 + nS M ∧ k < c + 1 then zi (zSl M k) else if 245 + 7 * nS M ≤ id ∧ id < 251 + 7 * nS M ∧ ((id < 245 + 7 * nS M + (c + 1) ∧ k < 2 * zSl M (id - (245 + 7 * nS M))) ∨ (id = 245 + 7 * nS M + (c + 1) ∧ k < 0)) then zSc M (id - (245 + 7 * nS M)) k else M.1 id k)
    have e5 : (245 + 7 * nS M ≤ id ∧ id < 251 + 7 * nS M ∧ ((id < 245 + 7 * nS M + c ∧ k < 2 * zSl M (id - (245 + 7 * nS M))) ∨ (id = 245 + 7 * nS M + c ∧ k < 2 * zSl M c))) = (245 + 7 * nS M ≤ id ∧ id < 251 + 7 * nS M ∧ ((id < 245 + 7 * nS M + (c + 1) ∧ k < 2 * zSl M (id - (245 + 7 * nS M))) ∨ (id = 245 + 7 * nS M + (c + 1) ∧ k < 0))) := by
      apply propext
      constructor
      · rintro ⟨q1, q2, q3⟩
        refine ⟨q1, q2, ?_⟩
        rcases q3 with ⟨q3, q4⟩ | ⟨q3, q4⟩
        · exact Or.inl ⟨by omega, q4⟩
        · refine Or.inl ⟨by omega, ?_⟩
          rw [show id - (245 + 7 * nS M) = c by omega]
          exact q4
      · rintro ⟨q1, q2, q3⟩
        refine ⟨q1, q2, ?_⟩
        rcases q3 with ⟨q3, q4⟩ | ⟨q3, q4⟩
        · by_cases e : id = 245 + 7 * nS M + c
          · rw [show id - (245 + 7 * nS M) = c by omega] at q4
            exact Or.inr ⟨e, q4⟩
          · exact Or.inl ⟨by omega, q4⟩
        · exact absurd q4 (Nat.not_lt_zero _)
    simp only [e5]
  · rfl
theorem zSq_f {M : yb_S} (h10 : nS M < 10) : yb_pI (yb_pI (yb_pI (zSq M 6 6 0) 333 (nS M) (M.1 176 7)) 334 (nS M) (-1)) 176 54 (zi (nS M + 1)) = zSh M := by
  apply Prod.ext
  · funext id k
    rw [zu_rd, zu_rd, zu_rd]
    show _ = (if id = 176 ∧ k = 44 then 0 else if id = 176 ∧ k = 54 then zi (nS M + 1) else if id = 333 ∧ k = nS M then M.1 176 7 else if id = 334 ∧ k = nS M then -1 else if id = 322 + nS M ∧ k < 6 then zi (zSl M k) else if 245 + 7 * nS M ≤ id ∧ id < 251 + 7 * nS M ∧ k < 2 * zSl M (id - (245 + 7 * nS M)) then zSc M (id - (245 + 7 * nS M)) k else M.1 id k)
    have e0 : (zSq M 6 6 0).1 id k = (if id = 176 ∧ k = 44 then 0 else if id = 322 + nS M ∧ k < 6 then zi (zSl M k) else if 245 + 7 * nS M ≤ id ∧ id < 251 + 7 * nS M ∧ ((id < 245 + 7 * nS M + 6 ∧ k < 2 * zSl M (id - (245 + 7 * nS M))) ∨ (id = 245 + 7 * nS M + 6 ∧ k < 0)) then zSc M (id - (245 + 7 * nS M)) k else M.1 id k) := rfl
    have e5 : (245 + 7 * nS M ≤ id ∧ id < 251 + 7 * nS M ∧ ((id < 245 + 7 * nS M + 6 ∧ k < 2 * zSl M (id - (245 + 7 * nS M))) ∨ (id = 245 + 7 * nS M + 6 ∧ k < 0))) = (245 + 7 * nS M ≤ id ∧ id < 251 + 7 * nS M ∧ k < 2 * zSl M (id - (245 + 7 * nS M))) := propext ⟨fun q => ⟨q.1, q.2.1, q.2.2.elim (fun p => p.2) (fun p => absurd p.2 (Nat.not_lt_zero _))⟩, fun q => ⟨q.1, q.2.1, Or.inl ⟨by omega, q.2.2⟩⟩⟩
    simp only [e5] at e0
    rw [e0]
    by_cases e1 : id = 176
    · rw [if_pos e1, if_neg (show ¬ id = 334 by omega), if_neg (show ¬ id = 333 by omega)]
      by_cases e2 : k = 54
      · rw [if_pos e2, if_neg (show ¬ (id = 176 ∧ k = 44) by omega), if_pos ⟨e1, e2⟩]
      · rw [if_neg e2]
        by_cases e3 : k = 44
        · rw [if_pos ⟨e1, e3⟩, if_pos ⟨e1, e3⟩]
        · rw [if_neg (show ¬ (id = 176 ∧ k = 44) by omega), if_neg (show ¬ (id = 176 ∧ k = 44) by omega), if_neg (show ¬ (id = 176 ∧ k = 54) by omega), if_neg (show ¬ (id = 333 ∧ k = nS M) by omega), if_neg (show ¬ (id = 334 ∧ k = nS M) by omega)]
    · rw [if_neg e1, if_neg (show ¬ (id = 176 ∧ k = 44) by omega), if_neg (show ¬ (id = 176 ∧ k = 44) by omega), if_neg (show ¬ (id = 176 ∧ k = 54) by omega)]
      by_cases e2 : id = 334
      · rw [if_pos e2, if_neg (show ¬ id = 333 by omega), if_neg (show ¬ (id = 333 ∧ k = nS M) by omega)]
        by_cases e3 : k = nS M
        · rw [if_pos e3, if_pos ⟨e2, e3⟩]
        · rw [if_neg e3, if_neg (show ¬ (id = 334 ∧ k = nS M) by omega)]
      · rw [if_neg e2]
        by_cases e4 : id = 333
        · rw [if_pos e4]
          by_cases e3 : k = nS M
          · rw [if_pos e3, if_pos ⟨e4, e3⟩]
          · rw [if_neg e3, if_neg (show ¬ (id = 333 ∧ k = nS M) by omega), if_neg (show ¬ (id = 334 ∧ k = nS M) by omega)]
        · rw [if_neg e4, if_neg (show ¬ (id = 333 ∧ k = nS M) by omega), if_neg (show ¬ (id = 334 ∧ k = nS M) by omega)]
  · rfl
theorem zm_enact {M o s u : yb_S} (hW : zW M) (hy : (zFy M).1 = true) (h10 : nS M < 10) (hQ : zQ M o u) (hu : ztr (zTx M) (nX M) s u (zFy M)) : zs_P (l_X12_sheet_32 yb_N 0 (yb_pI u 176 44 0)) (fun a => a.1 = zi (nS M) ∧ zQ (zSh M) o a.2) := by
  have hg := fun c hc => zFy_g hW hy (c := c) hc
  obtain ⟨z1, z2, z3⟩ := hu
  obtain ⟨-, -, z6⟩ := z3 hy
  have u54 : u.1 176 54 = zi (nS M) := by rw [zqk hQ (by omega)]; exact zw_S hW
  have u7 : u.1 176 7 = M.1 176 7 := zqk hQ (by omega)
  have hQ0 := zQ_ek (k := 44) (x := 0) hQ (by omega)
  rw [zSq_0] at hQ0
  unfold l_X12_sheet_32
  refine zs_up (fun c a => a.1 = zi c ∧ zQ (zSq M c c 0) o a.2 ∧ ∀ id k, (id = 176 ∧ k ≠ 44) ∨ (315 ≤ id ∧ id < 321) ∨ id = 332 → a.2.1 id k = u.1 id k) 6 ?_ yb_N 0 _ (Nat.zero_le _) (by decide) (by
    refine ⟨rfl, hQ0, fun id k q => ?_⟩
    dsimp only
    by_cases e : id = 176
    · subst e
      rw [zu_id, if_neg (by omega)]
    · rw [zu_ne e])
  rintro c ⟨x, v⟩ rc hc ⟨i1, i2, i3⟩ hnx
  dsimp only at i1 i2 i3
  subst i1
  show zs_P (f_X12_sheet_32 (fun x1 s => rc (x1, s)) (zi c) v) _
  have v54 : v.1 176 54 = zi (nS M) := by rw [i3 176 54 (by omega)]; exact u54
  unfold f_X12_sheet_32
  rcases Nat.lt_or_ge c 6 with hlt | hge
  · have hl := (hg c hlt).1
    have e332 : v.1 332 c = zi (zSl M c) := by rw [i3 332 c (by omega)]; exact (z6 c hlt).1
    rw [if_neg (by rw [show (6 : Int32) = zi 6 from rfl, zi_le (by omega) (by omega)]; omega), v54, zi_ri (by omega) (by omega), Option.bind_some, show (10 : Int32) = zi 10 from rfl, zi_ri (by omega) (by omega), Option.bind_some, show 322 + 1 * 10 = 332 from rfl, zi_rd hlt (by omega), Option.bind_some, e332, show 322 + 1 * nS M = 322 + nS M by omega, zi_wr hlt (by omega), Option.bind_some]
    have q1 := zQ_e (id := 322 + nS M) (k := c) (x := zi (zSl M c)) i2 (by omega)
    rw [zSq_l h10 hlt] at q1
    unfold l_X12_sheet_60
    refine zs_up (fun x a => a.1 = zi x ∧ zQ (zSq M (c + 1) c x) o a.2 ∧ ∀ id k, (id = 176 ∧ k ≠ 44) ∨ (315 ≤ id ∧ id < 321) ∨ id = 332 → a.2.1 id k = u.1 id k) (2 * zSl M c) ?_ yb_N 0 _ (Nat.zero_le _) (by unfold yb_N; omega) (by
      refine ⟨rfl, q1, fun id k q => ?_⟩
      dsimp only
      rw [zu_ne (by omega)]
      exact i3 id k q)
    rintro x ⟨y, z⟩ rd hx ⟨j1, j2, j3⟩ hm
    dsimp only at j1 j2 j3
    subst j1
    show zs_P (f_X12_sheet_60 (fun x1 s => rc (x1, s)) (fun x2 s => rd (x2, s)) (zi c) (zi x) z) _
    have z54 : z.1 176 54 = zi (nS M) := by rw [j3 176 54 (by omega)]; exact u54
    have z332 : z.1 332 c = zi (zSl M c) := by rw [j3 332 c (by omega)]; exact (z6 c hlt).1
    unfold f_X12_sheet_60
    rw [show (10 : Int32) = zi 10 from rfl, zi_ri (by omega) (by omega), Option.bind_some, show 322 + 1 * 10 = 332 from rfl, zi_rd hlt (by omega), Option.bind_some, z332, zi_mul2]
    rcases Nat.lt_or_ge x (2 * zSl M c) with hxl | hxg
    · have ecell : z.1 (315 + c) x = zSc M c x := by
        rw [j3 (315 + c) x (by omega)]
        have hk := (z6 c hlt).2 (x / 2) (by show x / 2 < zSl M c; omega)
        unfold zSc
        by_cases e : x % 2 = 0
        · rw [if_pos e, ← hk.1, show 2 * (x / 2) = x by omega]
        · rw [if_neg e, ← hk.2, show 2 * (x / 2) + 1 = x by omega]
      rw [if_neg (by rw [zi_le (by omega) (by omega)]; omega), z54, zi_ri (by omega) (by omega), Option.bind_some, zi_ri hlt (by omega), Option.bind_some, zi_ri (by omega) (by omega), Option.bind_some, zi_ri hlt (by omega), Option.bind_some, show 244 + 7 * 10 + 1 + 1 * c = 315 + c by omega, zi_rd (by omega) (by omega), Option.bind_some, ecell, show 244 + 7 * nS M + 1 + 1 * c = 245 + 7 * nS M + c by omega, zi_wr (by omega) (by omega), Option.bind_some, zi_succ]
      have q2 := zQ_e (id := 245 + 7 * nS M + c) (k := x) (x := zSc M c x) j2 (by omega)
      rw [zSq_c h10 hlt] at q2
      refine hm hxl _ ⟨rfl, q2, fun id k q => ?_⟩
      dsimp only
      rw [zu_ne (by omega)]
      exact j3 id k q
    · have ex := Nat.le_antisymm hx hxg
      rw [ex, zSq_n h10 hlt] at j2
      rw [if_pos (by rw [zi_le (by omega) (by omega)]; exact hxg), zi_succ]
      exact hnx hlt _ ⟨rfl, j2, j3⟩
  · have e6 : c = 6 := Nat.le_antisymm hc hge
    subst e6
    have v7 : v.1 176 7 = M.1 176 7 := by rw [i3 176 7 (by omega)]; exact u7
    have e1 : (yb_pI v 333 (nS M) (M.1 176 7)).1 176 54 = zi (nS M) := by rw [zu_ne (by omega)]; exact v54
    have e2 : (yb_pI (yb_pI v 333 (nS M) (M.1 176 7)) 334 (nS M) (-1)).1 176 54 = zi (nS M) := by rw [zu_ne (by omega)]; exact e1
    rw [if_pos (by decide), v54, v7, zi_wr h10 (by omega), Option.bind_some, e1, zi_wr h10 (by omega), Option.bind_some, e2, Option.bind_some, zi_succ, zu_eq]
    refine zs_ret ⟨?_, ?_⟩
    · show zi (nS M + 1) - 1 = zi (nS M)
      rw [show (1 : Int32) = zi 1 from rfl, zi_sub (by omega), Nat.add_sub_cancel]
    · have q1 := zQ_e (id := 333) (k := nS M) (x := M.1 176 7) i2 (by omega)
      have q2 := zQ_e (id := 334) (k := nS M) (x := -1) q1 (by omega)
      have q3 := zQ_ek (k := 54) (x := zi (nS M + 1)) q2 (by omega)
      rw [zSq_f h10] at q3
      exact q3
theorem ze_21 : ∀ (s : yb_S), zInv s → ∃ (r : Int32) (s1 s2 : yb_S), f_X11_sheet s = some (r, s1) ∧ f_X12_sheet s1 = some (r, s2) ∧ zInv s2 := by
  intro s h
  have hW := h.1
  have h8 := zw_S8 hW
  by_cases hc : (zFy (zP s)).1 = true ∧ nS (zP s) < 10
  · obtain ⟨hy, h10⟩ := hc
    refine z_call h (zi (nS (zP s))) (zSh (zP s)) (fun m t hA => ?_) (fun o t hQ => ?_) (zSh_W hW hy h10) ?_
    · unfold f_X11_sheet
      refine zs_bind (zo_read hW hA) fun u hu => ?_
      obtain ⟨w, hw⟩ := hu.2.2
      have e1 : u.1 92 1 = -1 := by
        rw [hw.2.2.2.1, hy]
        rfl
      rw [e1, if_pos rfl, cq_D hu.1]
      refine zs_bind (zo_enact hW hu.1 hy h10 hw) fun a ha => ?_
      rw [ha.1, if_neg (by rw [zi_m1 (by omega)]; exact id), Option.bind_some]
      exact zs_ret ⟨rfl, ha.2⟩
    · unfold f_X12_sheet
      have e54 : t.1 176 54 = zi (nS (zP s)) := by rw [zqk hQ (by omega)]; exact zw_S hW
      rw [e54, if_neg (by rw [show (10 : Int32) = zi 10 from rfl, zi_inj (by omega) (by omega)]; omega)]
      refine zs_bind (zm_read hW hQ) fun u hu => ?_
      have e1 : u.1 176 47 = -1 := by
        rw [hu.2.2.1, hy]
        rfl
      rw [e1, if_pos rfl, Option.bind_some]
      exact zm_enact hW hy h10 hu.1 hu.2
    · rw [zSh_k (by decide) (by decide) h10]
      exact z_b58 h
  · refine z_call h (-1) (zP s) (fun m t hA => ?_) (fun o t hQ => ?_) hW (z_b58 h)
    · unfold f_X11_sheet
      refine zs_bind (zo_read hW hA) fun u hu => ?_
      obtain ⟨w, hw⟩ := hu.2.2
      cases hy : (zFy (zP s)).1
      · have hS : zS (zTx (zP s)) (nX (zP s)) (zFy (zP s)).2.1 ≤ 500 := Nat.le_trans zS_n (zw_X8 hW)
        have e1 : u.1 92 1 = zi (zS (zTx (zP s)) (nX (zP s)) (zFy (zP s)).2.1) := by
          rw [hw.2.2.2.1, hy]
          rfl
        rw [e1, if_neg (by rw [zi_m1 (by omega)]; exact id)]
        exact zs_ret ⟨rfl, hu.1⟩
      · have e1 : u.1 92 1 = -1 := by
          rw [hw.2.2.2.1, hy]
          rfl
        have h10 : nS (zP s) = 10 := by
          have : ¬ nS (zP s) < 10 := fun q => hc ⟨hy, q⟩
          omega
        unfold f_X5_enact_92
        rw [e1, if_pos rfl, cq_S hu.1, zw_S hW, if_neg (by rw [show (10 : Int32) = zi 10 from rfl, zi_lt (by omega) (by omega)]; omega), Option.bind_some, if_pos rfl]
        exact zs_ret ⟨rfl, hu.1⟩
    · unfold f_X12_sheet
      have e54 : t.1 176 54 = zi (nS (zP s)) := by rw [zqk hQ (by omega)]; exact zw_S hW
      rw [e54]
      by_cases h10 : nS (zP s) = 10
      · rw [if_pos (by rw [h10]; rfl)]
        exact zs_ret ⟨rfl, hQ⟩
      · rw [if_neg (by rw [show (10 : Int32) = zi 10 from rfl, zi_inj (by omega) (by omega)]; omega)]
        have hy : (zFy (zP s)).1 = false := by
          cases hy : (zFy (zP s)).1
          · rfl
          · exact absurd ⟨hy, by omega⟩ hc
        have hS : zS (zTx (zP s)) (nX (zP s)) (zFy (zP s)).2.1 ≤ 500 := Nat.le_trans zS_n (zw_X8 hW)
        refine zs_bind (zm_read hW hQ) fun u hu => ?_
        have e1 : u.1 176 47 = zi (zS (zTx (zP s)) (nX (zP s)) (zFy (zP s)).2.1) := by
          rw [hu.2.2.1, hy]
          rfl
        rw [e1, if_neg (by rw [zi_m1 (by omega)]; exact id)]
        exact zs_ret ⟨rfl, hu.1⟩
