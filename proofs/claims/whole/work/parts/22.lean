/-! a law's clause: which sheet, and what it tells of given names -/
def zHas (M : yb_S) (j c : Nat) : Bool := !(M.1 (322 + j % 10) c == zi 0)
def zCnt (M : yb_S) (j : Nat) (d : Int32) : Bool := !decide (d < M.1 333 j) && (M.1 334 j == zm || !decide (M.1 334 j ≤ d))
def zSheet (M : yb_S) (c : Nat) (d : Int32) : Nat → Option Nat
  | 0 => none
  | n + 1 => if zCnt M n d && zHas M n c then some n else zSheet M c d n
theorem zSheet_s {M : yb_S} {c : Nat} {d : Int32} {n : Nat} : zSheet M c d (n + 1) = if zCnt M n d && zHas M n c then some n else zSheet M c d n := rfl
theorem zSheet_lt {M : yb_S} {c : Nat} {d : Int32} : ∀ {n j : Nat}, zSheet M c d n = some j → j < n ∧ zHas M j c = true
  | n + 1, j, h => by
    rw [zSheet_s] at h
    split at h
    · rename_i q
      cases h
      simp only [Bool.and_eq_true] at q
      exact ⟨by omega, q.2⟩
    · have := zSheet_lt h
      exact ⟨by omega, this.2⟩
def zForce (M : yb_S) (c : Nat) : Option Nat := if M.1 176 58 = zm then zSheet M c (M.1 176 7) (nS M) else if zHas M (M.1 176 58).toNatClampNeg c then some (M.1 176 58).toNatClampNeg else zSheet M c (M.1 176 7) (nS M)
def zCode (M : yb_S) (j c : Nat) : Nat → Int32 := M.1 (245 + 7 * (j % 10) + c % 6)
def zLen (M : yb_S) (j c : Nat) : Nat := (M.1 (322 + j % 10) c).toNatClampNeg
def zbr (v : Int64) : Int32 := if v < -1000000 then -1000000 else if 1000000 < v then 1000000 else v.toInt32
def zjoin (op a b : Int32) : Int32 := if op = 38 then a &&& b else if op = 42 then zbr (a.toInt64 * b.toInt64) else if op = 43 then zbr (a.toInt64 + b.toInt64) else if op = 45 then zbr (a.toInt64 - b.toInt64) else if op = 47 then (if b = 0 then 0 else a / b) else if op = 60 then (if b ≤ a then 0 else 1) else if op = 61 then (if a = b then 1 else 0) else if op = 62 then (if a ≤ b then 0 else 1) else a ||| b
def zput (st : Nat → Int32) (h : Nat) (v : Int32) : Nat → Int32 := fun i => if i = h then v else st i
def zstp (op v : Int32) (nm : Nat → Int32) (e : Nat × (Nat → Int32)) : Nat × (Nat → Int32) := if op = 110 then (e.1 + 1, zput e.2 e.1 v) else if op = 118 then (e.1 + 1, zput e.2 e.1 (nm v.toNatClampNeg)) else if op = 33 then (e.1, zput e.2 (e.1 - 1) (1 - e.2 (e.1 - 1))) else (e.1 - 1, zput e.2 (e.1 - 2) (zjoin op (e.2 (e.1 - 2)) (e.2 (e.1 - 1))))
def zev (c nm : Nat → Int32) : Nat → Nat × (Nat → Int32)
  | 0 => (0, fun _ => 0)
  | k + 1 => zstp (c (2 * k)) (c (2 * k + 1)) nm (zev c nm k)
theorem zev_s {c nm : Nat → Int32} {k : Nat} : zev c nm (k + 1) = zstp (c (2 * k)) (c (2 * k + 1)) nm (zev c nm k) := rfl
def zdflt (c : Nat) : Int32 := if c = 2 then 30 else if c = 4 then 1 else 0
def zTell (M : yb_S) (c : Nat) (nm : Nat → Int32) : Int32 := match zForce M c with
  | none => zdflt c
  | some j => (zev (zCode M j c) nm (zLen M j c)).2 0
theorem zbin_ne {op : Int32} (h : zbin op) : op ≠ 110 ∧ op ≠ 118 ∧ op ≠ 33 := by
  unfold zbin at h
  rcases h with h | h | h | h | h | h | h | h | h <;> subst h <;> decide
theorem zev_dep {c nm : Nat → Int32} {len : Nat} {dep : Nat → Nat} (d0 : dep 0 = 0) (hd : ∀ k, k < len → (c (2 * k) = 110 ∧ (∃ v, v < 100000 ∧ c (2 * k + 1) = zi v) ∧ dep (k + 1) = dep k + 1) ∨ (c (2 * k) = 118 ∧ (∃ v, v < 18 ∧ c (2 * k + 1) = zi v) ∧ dep (k + 1) = dep k + 1) ∨ (c (2 * k) = 33 ∧ 1 ≤ dep k ∧ dep (k + 1) = dep k) ∨ (zbin (c (2 * k)) ∧ 2 ≤ dep k ∧ dep (k + 1) + 1 = dep k)) : ∀ k, k ≤ len → (zev c nm k).1 = dep k
  | 0, _ => d0.symm
  | k + 1, hk => by
    have ih := zev_dep (nm := nm) d0 hd k (by omega)
    rw [zev_s]
    unfold zstp
    rcases hd k hk with ⟨h1, -, h3⟩ | ⟨h1, -, h3⟩ | ⟨h1, h2, h3⟩ | ⟨h1, h2, h3⟩
    · rw [if_pos h1]
      show _ + 1 = _
      omega
    · rw [h1, if_neg (by decide), if_pos rfl]
      show _ + 1 = _
      omega
    · rw [h1, if_neg (by decide), if_neg (by decide), if_pos rfl]
      show (zev c nm k).1 = _
      omega
    · obtain ⟨q1, q2, q3⟩ := zbin_ne h1
      rw [if_neg q1, if_neg q2, if_neg q3]
      show (zev c nm k).1 - 1 = _
      omega
theorem zw_len {M : yb_S} (h : zW M) {j c : Nat} (hj : j < nS M) (hc : c < 6) : ∃ len, len ≤ 500 ∧ M.1 (322 + j % 10) c = zi len ∧ (0 < len → zcok (M.1 (245 + 7 * (j % 10) + c % 6)) len) := (h.2.2.2.2.2.2.2.2.2.2.1.2 j hj).2 c hc
theorem zw_58 {M : yb_S} (h : zW M) : M.1 176 58 = -1 ∨ ∃ j, j < nS M ∧ M.1 176 58 = zi j := h.2.2.2.2.2.2.2.2.2.2.1.1
theorem zForce_ok {M : yb_S} (hW : zW M) {c j : Nat} (h : zForce M c = some j) : j < nS M ∧ zHas M j c = true := by
  unfold zForce at h
  split at h
  · exact zSheet_lt h
  · rename_i q
    split at h
    · rename_i q2
      rcases zw_58 hW with e | ⟨i, hi, e⟩
      · exact absurd e q
      · have h8 := zw_S8 hW
        rw [e, zi_tn (by omega)] at h q2
        cases h
        exact ⟨hi, q2⟩
    · exact zSheet_lt h
theorem zw_ok {M : yb_S} (hW : zW M) {j c : Nat} (hj : j < nS M) (hc : c < 6) (h : zHas M j c = true) : 0 < zLen M j c ∧ zLen M j c ≤ 500 ∧ M.1 (322 + j % 10) c = zi (zLen M j c) ∧ zcok (zCode M j c) (zLen M j c) := by
  obtain ⟨len, h1, h2, h3⟩ := zw_len hW hj hc
  unfold zLen zCode
  unfold zHas at h
  rw [h2] at h ⊢
  rw [zi_tn (by omega)]
  have h0 : 0 < len := by
    refine Nat.pos_of_ne_zero fun q => ?_
    subst q
    simp at h
  exact ⟨h0, h1, rfl, h3 h0⟩
/-! the reference: which sheet -/
theorem zHas_n {M : yb_S} {j c len : Nat} (hl : len ≤ 500) (h : M.1 (322 + j % 10) c = zi len) : zHas M j c = decide (0 < len) := by
  unfold zHas
  rw [h]
  by_cases q : len = 0
  · subst q
    simp
  · rw [show (zi len == zi 0) = false from beq_eq_false_iff_ne.mpr (by rw [ne_eq, zi_inj (by omega) (by omega)]; exact q), decide_eq_true (Nat.pos_of_ne_zero q)]
    rfl
theorem zm_sheetFor {M o s : yb_S} (hW : zW M) (hQ : zQ M o s) {c : Nat} {d : Int32} (hc : c < 6) : f_X12_sheetFor (zi c) d s = some (zix (zSheet M c d (nS M))) := by
  have h8 := zw_S8 hW
  unfold f_X12_sheetFor l_X12_sheetFor_5
  refine zs_upE (fun k => (zix (zSheet M c d k), zi k)) (nS M) _ ?_ ?_ yb_N 0 (Nat.zero_le _) (by unfold yb_N; omega)
  · intro k rc hk
    obtain ⟨len, hl, el, -⟩ := zw_len hW hk hc
    have e : 322 + 1 * k = 322 + k % 10 := by omega
    show f_X12_sheetFor_5 _ _ _ _ (zix (zSheet M c d k)) (zi k) = _
    unfold f_X12_sheetFor_5 j_X12_sheetFor_47 j_X12_sheetFor_62
    rw [zSheet_s, zHas_n hl el]
    unfold zCnt
    simp (disch := omega) only [zqk hQ, zq hQ, zw_S hW, e, el, ↓zmd, zl, zi_div, zi_rem, zi_lt, zi_le, zi_inj, zi_add, zi_sub, zi_addm, zi_eqm, zi_meq, zi_mlt, zi_ltm, zi_lem, zi_mle, zi_tn, zi_rd, zi_wr, zi_rl, zi_wl, zi_ri, zu_ne, zu_nef, zu_eq, zu_id, zu_rl, zu_rdL, zu_neL, zu_idL, Option.bind_some, ↓reduceIte, Nat.reduceEqDiff, if_pos, if_neg]
    by_cases h1 : d < M.1 333 k
    · simp [h1]
    · by_cases h2 : M.1 334 k = zm
      · by_cases h4 : len ≤ 0
        · simp [h1, h2, h4, show ¬ 0 < len by omega]
        · simp [h1, h2, h4, show 0 < len by omega, zix]
      · by_cases h3 : M.1 334 k ≤ d
        · simp [h1, h2, h3]
        · by_cases h4 : len ≤ 0
          · simp [h1, h2, h3, h4, show ¬ 0 < len by omega]
          · simp [h1, h2, h3, h4, show 0 < len by omega, zix]
  · intro rc
    show f_X12_sheetFor_5 _ _ _ _ (zix (zSheet M c d (nS M))) (zi (nS M)) = _
    unfold f_X12_sheetFor_5
    simp (disch := omega) only [zqk hQ, zw_S hW, ↓zmd, zl, zi_div, zi_rem, zi_lt, zi_le, zi_inj, zi_add, zi_sub, zi_addm, zi_eqm, zi_meq, zi_mlt, zi_ltm, zi_lem, zi_mle, zi_tn, zi_rd, zi_wr, zi_rl, zi_wl, zi_ri, zu_ne, zu_nef, zu_eq, zu_id, zu_rl, zu_rdL, zu_neL, zu_idL, Option.bind_some, ↓reduceIte, Nat.reduceEqDiff, if_pos, if_neg]
theorem zm_brought {v : Int64} {s : yb_S} : f_X12_brought v s = some (zbr v) := by
  unfold f_X12_brought j_X12_brought_29 zbr
  have e1 : (0 ≤ lg_cmp v (-1000000)) = ¬ (v < -1000000) := by
    rw [← lg_cmp_lt, Int32.not_lt]
  have e2 : (lg_cmp v 1000000 ≤ 0) = ¬ (1000000 < v) := by
    rw [← lg_cmp_gt, Int32.not_lt]
  simp only [e1, e2]
  by_cases h1 : v < -1000000
  · simp [h1]
  · by_cases h2 : 1000000 < v
    · simp [h1, h2]
    · simp [h1, h2]
theorem zo_brought {v : Int64} {s : yb_S} : f_X5_brought v s = some (zbr v) := by
  unfold f_X5_brought zbr
  have e1 : (0 ≤ lg_cmp v (-1000000)) = ¬ (v < -1000000) := by
    rw [← lg_cmp_lt, Int32.not_lt]
  have e2 : (lg_cmp v 1000000 ≤ 0) = ¬ (1000000 < v) := by
    rw [← lg_cmp_gt, Int32.not_lt]
  simp only [e1, e2]
  by_cases h1 : v < -1000000
  · have h2 : ¬ (1000000 < v) := fun q => absurd (Int64.lt_trans h1 (Int64.lt_trans (by decide) q)) Int64.lt_irrefl
    simp [h1, h2]
  · by_cases h2 : 1000000 < v
    · simp [h1, h2]
    · simp [h1, h2]
theorem zm_done {op a b : Int32} {s : yb_S} (h : zbin op) : f_X12_done op a b s = some (zjoin op a b) := by
  unfold zbin at h
  unfold f_X12_done zjoin yb_dv
  rcases h with h | h | h | h | h | h | h | h | h <;> subst h <;> simp [zm_brought] <;> (repeat' split) <;> first | rfl | contradiction | simp_all
theorem zo_joined {op v a b : Int32} {s : yb_S} (h : zbin op) : f_X5_joined (zstep op v) a b s = some (zjoin op a b) := by
  unfold zbin at h
  unfold f_X5_joined zjoin zstep yb_dv
  rcases h with h | h | h | h | h | h | h | h | h <;> subst h <;> simp [zo_brought] <;> (repeat' split) <;> first | rfl | contradiction | simp_all
