/-! a day's numbers -/
theorem z64_add {a b : Nat} (h : a + b < 2147483648) : (zi a).toInt64 + (zi b).toInt64 = (zi (a + b)).toInt64 := by
  apply Int64.toInt_inj.mp
  rw [Int64.toInt_add, Int32.toInt_toInt64, Int32.toInt_toInt64, Int32.toInt_toInt64, zi_toInt (by omega), zi_toInt (by omega), zi_toInt h]
  rw [Int.bmod_eq_of_le_mul_two (by omega) (by omega)]
  omega
def zGa (M : yb_S) (k : Nat) : Int32 := zsum (fun f => cond (M.1 195 f == 1) (zNg M f) 0) k
def zHd (M : yb_S) (t k : Nat) : Int32 := zsum (fun f => cond (zi t == 3 || M.1 195 f == zi t) (M.1 189 f) 0) k
theorem zNg_b {M : yb_S} {f : Nat} : ∃ n, n ≤ 1000000 ∧ zNg M f = zi n := zwi_b _
theorem zsum_b {g : Nat → Int32} {B N : Nat} (h : ∀ k, k < N → ∃ n, n ≤ B ∧ g k = zi n) : ∀ {k : Nat}, k ≤ N → ∃ n, n ≤ B * k ∧ zsum g k = zi n
  | 0, _ => ⟨0, Nat.zero_le _, rfl⟩
  | k + 1, hk => by
    obtain ⟨n, hn, e⟩ := zsum_b h (k := k) (by omega)
    obtain ⟨m, hm, e2⟩ := h k (by omega)
    refine ⟨n + m, ?_, ?_⟩
    · rw [Nat.mul_succ]
      omega
    · rw [zsum_succ, e, e2]
      exact zi_add n m
theorem zGa_b {M : yb_S} {k : Nat} : ∃ n, n ≤ 1000000 * k ∧ zGa M k = zi n := by
  refine zsum_b (N := k) (fun f _ => ?_) (Nat.le_refl _)
  cases (M.1 195 f == 1)
  · exact ⟨0, Nat.zero_le _, rfl⟩
  · exact zNg_b
theorem zGt_b {M : yb_S} {t k : Nat} : ∃ n, n ≤ 1000000 * k ∧ zGt M t k = zi n := by
  refine zsum_b (N := k) (fun f _ => ?_) (Nat.le_refl _)
  cases (zTown M f == zi t)
  · exact ⟨0, Nat.zero_le _, rfl⟩
  · exact zNg_b
theorem zHd_b {M : yb_S} (hW : zW M) {t k : Nat} (hk : k ≤ nF M) : ∃ n, n ≤ 10 * k ∧ zHd M t k = zi n := by
  refine zsum_b (N := nF M) (fun f hf => ?_) hk
  cases (zi t == 3 || M.1 195 f == zi t)
  · exact ⟨0, Nat.zero_le _, rfl⟩
  · obtain ⟨q, hq, e⟩ := (zw_f hW hf).1
    exact ⟨q, by omega, e⟩
theorem zHd_s {M : yb_S} (hW : zW M) {t k q : Nat} (hk : k < nF M) (ht : t < 4) (hq : q < 3) (e : M.1 195 k = zi q) : (zHd M t (k + 1)).toInt64 = if t = 3 ∨ t = q then (zHd M t k).toInt64 + (M.1 189 k).toInt64 else (zHd M t k).toInt64 := by
  have h8 := zw_F8 hW
  obtain ⟨n, hn, en⟩ := zHd_b hW (t := t) (k := k) (by omega)
  obtain ⟨m, hm, em⟩ := (zw_f hW hk).1
  have es : zHd M t (k + 1) = zHd M t k + cond (zi t == 3 || M.1 195 k == zi t) (M.1 189 k) 0 := rfl
  by_cases c : t = 3 ∨ t = q
  · have : (zi t == 3 || M.1 195 k == zi t) = true := by
      rcases c with c | c
      · subst c
        rfl
      · rw [e, c]
        simp
    rw [if_pos c, es, this, en, em]
    show (zi n + zi m).toInt64 = _
    rw [zi_add, z64_add (by omega)]
  · have : (zi t == 3 || M.1 195 k == zi t) = false := by
      rw [e, Bool.or_eq_false_iff]
      constructor
      · rw [show (3 : Int32) = zi 3 from rfl]
        exact beq_eq_false_iff_ne.mpr (by rw [Ne, zi_inj (by omega) (by omega)]; omega)
      · exact beq_eq_false_iff_ne.mpr (by rw [Ne, zi_inj (by omega) (by omega)]; omega)
    rw [if_neg c, es, this]
    show (zHd M t k + 0).toInt64 = _
    rw [Int32.add_zero]
theorem zGa_s {M : yb_S} (hW : zW M) {k : Nat} (hk : k < nF M) : (zGa M (k + 1)).toInt64 = if M.1 195 k = 1 then (zGa M k).toInt64 + (zNg M k).toInt64 else (zGa M k).toInt64 := by
  have h8 := zw_F8 hW
  obtain ⟨n, hn, en⟩ := zGa_b (M := M) (k := k)
  obtain ⟨m, hm, em⟩ := zNg_b (M := M) (f := k)
  have es : zGa M (k + 1) = zGa M k + cond (M.1 195 k == 1) (zNg M k) 0 := rfl
  by_cases c : M.1 195 k = 1
  · rw [if_pos c, es, c, show ((1 : Int32) == 1) = true from rfl, en, em]
    show (zi n + zi m).toInt64 = _
    rw [zi_add, z64_add (by omega)]
  · rw [if_neg c, es, show (M.1 195 k == 1) = false from beq_eq_false_iff_ne.mpr c]
    show (zGa M k + 0).toInt64 = _
    rw [Int32.add_zero]
theorem zGt_s {M : yb_S} (hW : zW M) {t k : Nat} (hk : k < nF M) {A : Int64} : A + (zGt M t (k + 1)).toInt64 = if zTown M k = zi t then (A + (zGt M t k).toInt64) + (zNg M k).toInt64 else A + (zGt M t k).toInt64 := by
  have h8 := zw_F8 hW
  obtain ⟨n, hn, en⟩ := zGt_b (M := M) (t := t) (k := k)
  obtain ⟨m, hm, em⟩ := zNg_b (M := M) (f := k)
  have es : zGt M t (k + 1) = zGt M t k + cond (zTown M k == zi t) (zNg M k) 0 := rfl
  by_cases c : zTown M k = zi t
  · rw [if_pos c, es, c, show (zi t == zi t) = true by simp, en, em]
    show A + (zi n + zi m).toInt64 = _
    rw [zi_add, Int64.add_assoc, z64_add (by omega)]
  · rw [if_neg c, es, show (zTown M k == zi t) = false from beq_eq_false_iff_ne.mpr c]
    show A + (zGt M t k + 0).toInt64 = _
    rw [Int32.add_zero]
theorem zsum_one {x : Int32} {t0 : Nat} (h0 : t0 < 8) : ∀ {n : Nat}, n ≤ 8 → zsum (fun t => cond (zi t0 == zi t) x 0) n = if t0 < n then x else 0
  | 0, _ => by rw [if_neg (by omega)]; rfl
  | n + 1, hn => by
    rw [zsum_succ, zsum_one h0 (n := n) (by omega)]
    by_cases e : t0 = n
    · subst e
      rw [if_neg (by omega), if_pos (by omega), show (zi t0 == zi t0) = true by simp]
      exact Int32.zero_add _
    · rw [show (zi t0 == zi n) = false from beq_eq_false_iff_ne.mpr (by rw [Ne, zi_inj (by omega) (by omega)]; exact e)]
      show _ + (0 : Int32) = _
      rw [Int32.add_zero]
      by_cases h : t0 < n
      · rw [if_pos h, if_pos (by omega)]
      · rw [if_neg h, if_neg (by omega)]
theorem zsum_z : ∀ {n : Nat}, zsum (fun _ => (0 : Int32)) n = 0
  | 0 => rfl
  | n + 1 => by
    rw [zsum_succ, zsum_z (n := n)]
    rfl
theorem zGt_0 {M : yb_S} (hW : zW M) {t : Nat} (ht : nT M ≤ t) (h8 : t < 8) : ∀ {k : Nat}, k ≤ nF M → zGt M t k = 0
  | 0, _ => rfl
  | k + 1, hk => by
    have es : zGt M t (k + 1) = zGt M t k + cond (zTown M k == zi t) (zNg M k) 0 := rfl
    have h10 := zw_T8 hW
    have : (zTown M k == zi t) = false := beq_eq_false_iff_ne.mpr (by
      rcases zTown_in hW (f := k) (by omega) with ⟨e, -⟩ | ⟨t2, ht2, e, -⟩
      · rw [e, show (-1 : Int32) = zm from rfl]
        intro q
        exact absurd q.symm (by rw [zi_eqm (by omega)]; exact id)
      · rw [e, Ne, zi_inj (by omega) (by omega)]
        omega)
    rw [es, zGt_0 hW ht h8 (k := k) (by omega), this]
    rfl
theorem zGt_sum {M : yb_S} (hW : zW M) : ∀ {k : Nat}, k ≤ nF M → zsum (fun t => zGt M t k) 8 = zGa M k
  | 0, _ => by
    have e : zsum (fun t => zGt M t 0) 8 = zsum (fun _ => (0 : Int32)) 8 := zsum_congr fun t _ => (show zGt M t 0 = 0 from zsum_0)
    have e2 : zGa M 0 = 0 := zsum_0
    rw [e, zsum_z, e2]
  | k + 1, hk => by
    have h10 := zw_T8 hW
    have es : zGa M (k + 1) = zGa M k + cond (M.1 195 k == 1) (zNg M k) 0 := rfl
    have e1 : zsum (fun t => zGt M t (k + 1)) 8 = zsum (fun t => zGt M t k) 8 + zsum (fun t => cond (zTown M k == zi t) (zNg M k) 0) 8 := by
      rw [zsum_add]
      exact zsum_congr fun t _ => (rfl : zsum _ (k + 1) = _)
    rw [e1, es, zGt_sum hW (k := k) (by omega)]
    refine congrArg (fun z => zGa M k + z) ?_
    rcases zTown_in hW (f := k) (by omega) with ⟨e, h1, -⟩ | ⟨t2, ht2, e, h1, -⟩
    · rw [show (M.1 195 k == 1) = false from beq_eq_false_iff_ne.mpr h1]
      show _ = (0 : Int32)
      rw [← zsum_z (n := 8)]
      refine zsum_congr fun t ht => ?_
      rw [e, show ((-1 : Int32) == zi t) = false from beq_eq_false_iff_ne.mpr (by
        rw [show (-1 : Int32) = zm from rfl]
        intro q
        exact absurd q.symm (by rw [zi_eqm (by omega)]; exact id))]
      rfl
    · rw [h1, show ((1 : Int32) == 1) = true from rfl, e, zsum_one (by omega) (Nat.le_refl _), if_pos (by omega)]
      rfl
/-! codes of a day -/
theorem zCd_c {N M : yb_S} (h : ∀ id, id < 367 → N.1 id = M.1 id) {f : Nat} : zCd N f = zCd M f := by
  unfold zCd
  rw [h 195 (by decide), h 196 (by decide)]
theorem zCd_ok {M : yb_S} (hW : zW M) {f : Nat} (hf : f < nF M) : ((∃ h, h < 24 ∧ zCd M f = zi h) ∨ zCd M f = 100 ∨ zCd M f = 101) ∧ zOn (zCd M f) = M.1 195 f := by
  have h9 := zw_H8 hW
  unfold zCd
  rcases (zw_f hW hf).2.2.1 with e | e | e
  · rw [e, if_pos rfl]
    exact ⟨Or.inr (Or.inl rfl), rfl⟩
  · rcases (zw_f hW hf).2.2.2.1 with ⟨-, h, hh, e2⟩ | ⟨q, -⟩
    · rw [e, if_neg (by decide), if_pos rfl, e2]
      refine ⟨Or.inl ⟨h, by omega, rfl⟩, ?_⟩
      unfold zOn
      rw [show (100 : Int32) = zi 100 from rfl, show (101 : Int32) = zi 101 from rfl, if_neg (by rw [zi_inj (by omega) (by omega)]; omega), if_neg (by rw [zi_inj (by omega) (by omega)]; omega)]
    · exact absurd e q
  · rw [e, if_neg (by decide), if_neg (by decide)]
    exact ⟨Or.inr (Or.inr rfl), rfl⟩
theorem zDayHd {P N : yb_S} (hW : zW P) (he : N.1 = (zKp P (nF P)).1) {k : Nat} : zDayH N (nD P) (zi k) = zHd P k (nF P) := by
  have h8 := zw_F8 hW
  have h9 := zw_D8 hW
  have hc : ∀ id, id < 367 → N.1 id = P.1 id := fun id h => by rw [he, zKp_c h]
  unfold zDayH zHd
  rw [(zN_c hc).1]
  refine zsum_congr fun f hf => ?_
  have e1 : N.1 (367 + f % 24) (nD P) = zCd P f := by
    rw [he]
    show (if 367 ≤ 367 + f % 24 ∧ 367 + f % 24 < 367 + nF P ∧ nD P = nD P then zCd P (367 + f % 24 - 367) else P.1 (367 + f % 24) (nD P)) = _
    rw [if_pos ⟨by omega, by omega, rfl⟩, show 367 + f % 24 - 367 = f by omega]
  obtain ⟨d, hd, ed⟩ := (zw_f hW hf).2.2.2.2.2
  have e2 : zle (N.1 198 f) (zi (nD P)) = true := by
    rw [hc 198 (by decide), ed]
    exact zle_t.mpr (by rw [zi_le (by omega) (by omega)]; exact hd)
  rw [e1, e2, (zCd_ok hW hf).2, hc 189 (by decide)]
  rfl
