/-! runs of one side alone: zA the class's over a picture M, zQ the reference's over its own half M -/
def zA (M m s : yb_S) : Prop := zR (zO s) M ∧ zHm s = m
def zQ (M o s : yb_S) : Prop := zP s = M ∧ zHo s = o ∧ zC s
theorem zq {M o s : yb_S} (h : zQ M o s) {id k : Nat} (hid : (177 ≤ id ∧ id < 217) ∨ (242 ≤ id ∧ id < 314) ∨ (321 ≤ id ∧ id < 332) ∨ (333 ≤ id ∧ id < 337) ∨ (341 ≤ id ∧ id < 592) ∨ (598 ≤ id ∧ id < 603)) : s.1 id k = M.1 id k := by
  rw [← h.1]
  exact (zP_rd (zeP_t hid)).symm
theorem zrP {M s : yb_S} (h : zP s = M) {id k : Nat} (hid : (177 ≤ id ∧ id < 217) ∨ (242 ≤ id ∧ id < 314) ∨ (321 ≤ id ∧ id < 332) ∨ (333 ≤ id ∧ id < 337) ∨ (341 ≤ id ∧ id < 592) ∨ (598 ≤ id ∧ id < 603)) : s.1 id k = M.1 id k := by
  rw [← h]
  exact (zP_rd (zeP_t hid)).symm
theorem zrPk {M s : yb_S} (h : zP s = M) {k : Nat} (hk : k = 6 ∨ k = 7 ∨ k = 8 ∨ k = 15 ∨ k = 27 ∨ k = 36 ∨ k = 40 ∨ k = 44 ∨ k = 54 ∨ k = 58 ∨ k = 64 ∨ k = 84 ∨ k = 85) : s.1 176 k = M.1 176 k := by
  rw [← h]
  refine (zP_rd ?_).symm
  rcases hk with h | h | h | h | h | h | h | h | h | h | h | h | h <;> subst h <;> rfl
theorem zqk {M o s : yb_S} (h : zQ M o s) {k : Nat} (hk : k = 6 ∨ k = 7 ∨ k = 8 ∨ k = 15 ∨ k = 27 ∨ k = 36 ∨ k = 40 ∨ k = 44 ∨ k = 54 ∨ k = 58 ∨ k = 64 ∨ k = 84 ∨ k = 85) : s.1 176 k = M.1 176 k := by
  rw [← h.1]
  refine (zP_rd ?_).symm
  rcases hk with h | h | h | h | h | h | h | h | h | h | h | h | h <;> subst h <;> rfl
theorem zql {M o s : yb_S} (h : zQ M o s) {id k : Nat} (hid : 176 ≤ id ∧ id < 603) : s.2 id k = M.2 id k := by
  rw [← h.1]
  exact (if_pos hid).symm
theorem zeP_nf {id k : Nat} (h : zeP id k = true) : 176 ≤ id ∧ (id < 217 ∨ 242 ≤ id) ∧ (id ≠ 176 ∨ k ≠ 42) ∧ id ≠ 337 ∧ id ≠ 338 := by
  refine ⟨?_, ?_, ?_, ?_, ?_⟩
  · exact Nat.le_of_not_lt fun q => by rw [zeP_f (Or.inl q)] at h; cases h
  · by_cases q : 217 ≤ id ∧ id < 242
    · rw [zeP_f (by omega)] at h
      cases h
    · omega
  · by_cases q : id = 176 ∧ k = 42
    · obtain ⟨rfl, rfl⟩ := q
      cases h
    · omega
  · intro q
    rw [zeP_f (by omega)] at h
    cases h
  · intro q
    rw [zeP_f (by omega)] at h
    cases h
/-! the reference's questions: they write its scratch and its table of who finds whom, no more -/
def zfq (s t : yb_S) : Prop := (∀ id k, (id < 218 ∨ 242 ≤ id) → id ≠ 337 → id ≠ 338 → (id ≠ 176 ∨ k ≠ 42) → t.1 id k = s.1 id k) ∧ t.2 = s.2
def zG (s t : yb_S) : Prop := zfq s t ∧ (zC s → zC t)
def zfk (s t : yb_S) : Prop := (∀ id k, (id < 218 ∨ 242 ≤ id) → (id ≠ 176 ∨ k ≠ 42) → t.1 id k = s.1 id k) ∧ t.2 = s.2
def zK (s t : yb_S) : Prop := zfk s t ∧ (zC s → zC t)
theorem zG_refl (s : yb_S) : zG s s := ⟨⟨fun _ _ _ _ _ _ => rfl, rfl⟩, id⟩
theorem zG_trans {s t u : yb_S} (h : zG s t) (k : zG t u) : zG s u := ⟨⟨fun id j a b c d => (k.1.1 id j a b c d).trans (h.1.1 id j a b c d), k.1.2.trans h.1.2⟩, fun q => k.2 (h.2 q)⟩
theorem zK_refl (s : yb_S) : zK s s := ⟨⟨fun _ _ _ _ => rfl, rfl⟩, id⟩
theorem zK_trans {s t u : yb_S} (h : zK s t) (k : zK t u) : zK s u := ⟨⟨fun id j a b => (k.1.1 id j a b).trans (h.1.1 id j a b), k.1.2.trans h.1.2⟩, fun q => k.2 (h.2 q)⟩
theorem zK_G {s t : yb_S} (h : zK s t) : zG s t := ⟨⟨fun id j a _ _ d => h.1.1 id j a d, h.1.2⟩, h.2⟩
theorem zfq_P {s t : yb_S} (h : zfq s t) : zP t = zP s := by
  apply Prod.ext
  · funext id k
    show (if zeP id k then t.1 id k else 0) = (if zeP id k then s.1 id k else 0)
    by_cases hk : zeP id k = true
    · obtain ⟨q1, q2, q3, q4, q5⟩ := zeP_nf hk
      rw [if_pos hk, if_pos hk]
      exact h.1 id k (by omega) q4 q5 q3
    · rw [if_neg hk, if_neg hk]
  · funext id k
    show (if 176 ≤ id ∧ id < 603 then t.2 id k else 0) = (if 176 ≤ id ∧ id < 603 then s.2 id k else 0)
    rw [h.2]
theorem zG_P {s t : yb_S} (h : zG s t) : zP t = zP s := zfq_P h.1
theorem zfk_q {s t : yb_S} (h : zfk s t) : zfq s t := ⟨fun id j a _ _ d => h.1 id j a d, h.2⟩
theorem zG_o {s t : yb_S} (h : zG s t) : zHo t = zHo s := by
  apply Prod.ext
  · funext id k
    show (if id < 176 then t.1 id k else 0) = (if id < 176 then s.1 id k else 0)
    by_cases hk : id < 176
    · rw [if_pos hk, if_pos hk]
      exact h.1.1 id k (by omega) (by omega) (by omega) (by omega)
    · rw [if_neg hk, if_neg hk]
  · funext id k
    show (if id < 176 then t.2 id k else 0) = (if id < 176 then s.2 id k else 0)
    rw [h.1.2]
theorem zG_Q {M o s t : yb_S} (h : zG s t) (q : zQ M o s) : zQ M o t := ⟨(zG_P h).trans q.1, (zG_o h).trans q.2.1, h.2 q.2.2⟩
theorem zK_Q {M o s t : yb_S} (h : zK s t) (q : zQ M o s) : zQ M o t := zG_Q (zK_G h) q
theorem zG_w {s : yb_S} {id k : Nat} {x : Int32} (hid : id = 337 ∨ id = 338) : zG s (yb_pI s id k x) := by
  refine ⟨⟨fun a b _ h1 h2 _ => zu_ne (by omega), rfl⟩, zC_congr (fun a q1 q2 => ?_) ?_ ?_ ?_ ?_⟩ <;> simp (disch := omega) only [zu_ne, zu_nef]
/-- the reference's other scratch -/
theorem zQ_w {M o s : yb_S} (h : zQ M o s) {id k : Nat} {x : Int32} (hid : (314 ≤ id ∧ id < 321) ∨ id = 332 ∨ (337 ≤ id ∧ id < 341) ∨ (592 ≤ id ∧ id < 598) ∨ 603 ≤ id) : zQ M o (yb_pI s id k x) := by
  refine ⟨(zP_s (by omega)).trans h.1, (zHo_pI (by omega)).trans h.2.1, zC_congr (fun a q1 q2 => ?_) ?_ ?_ ?_ ?_ h.2.2⟩ <;> simp (disch := omega) only [zu_ne, zu_nef]
theorem zQ_wL {M o s : yb_S} (h : zQ M o s) {id k : Nat} {x : Int64} (hid : 603 ≤ id) : zQ M o (yb_pL s id k x) :=
  ⟨(zP_Ls (by omega)).trans h.1, (zHo_pL (by omega)).trans h.2.1, zC_congr (fun _ _ _ => rfl) rfl rfl rfl rfl h.2.2⟩
theorem zQ_k {M o s : yb_S} (h : zQ M o s) {k : Nat} {x : Int32} (hk : k = 45 ∨ k = 46 ∨ k = 47 ∨ k = 48 ∨ k = 49 ∨ k = 55 ∨ k = 65 ∨ k = 74 ∨ k = 75 ∨ k = 76 ∨ k = 77 ∨ k = 78) : zQ M o (yb_pI s 176 k x) := by
  refine ⟨(zP_k0 (by omega)).trans h.1, (zHo_pI (by omega)).trans h.2.1, zC_congr (fun a q1 q2 => ?_) ?_ ?_ ?_ ?_ h.2.2⟩
  · exact zu_nef (by omega)
  · rw [zu_id, if_neg (by omega)]
  · rw [zu_id, if_neg (by omega)]
  · rw [zu_id, if_neg (by omega)]
  · rw [zu_id, if_neg (by omega)]
/-- what is written into the reference's half itself, where who finds whom isn't touched -/
theorem zQ_e {M o s : yb_S} (h : zQ M o s) {id k : Nat} {x : Int32} (hid : (177 ≤ id ∧ id < 207) ∨ (242 ≤ id ∧ id < 314) ∨ (321 ≤ id ∧ id < 332) ∨ (333 ≤ id ∧ id < 337) ∨ (341 ≤ id ∧ id < 592) ∨ (598 ≤ id ∧ id < 603)) : zQ (yb_pI M id k x) o (yb_pI s id k x) := by
  refine ⟨(zP_e (by omega)).trans (by rw [h.1]), (zHo_pI (by omega)).trans h.2.1, zC_congr (fun a q1 q2 => ?_) ?_ ?_ ?_ ?_ h.2.2⟩ <;> simp (disch := omega) only [zu_ne, zu_nef]
theorem zQ_eL {M o s : yb_S} (h : zQ M o s) {id k : Nat} {x : Int64} (hid : 176 ≤ id ∧ id < 603) : zQ (yb_pL M id k x) o (yb_pL s id k x) :=
  ⟨(zP_Le hid).trans (by rw [h.1]), (zHo_pL (by omega)).trans h.2.1, zC_congr (fun _ _ _ => rfl) rfl rfl rfl rfl h.2.2⟩
theorem zQ_ek {M o s : yb_S} (h : zQ M o s) {k : Nat} {x : Int32} (hk : k = 6 ∨ k = 7 ∨ k = 8 ∨ k = 15 ∨ k = 44 ∨ k = 54 ∨ k = 58 ∨ k = 64 ∨ k = 84 ∨ k = 85) : zQ (yb_pI M 176 k x) o (yb_pI s 176 k x) := by
  refine ⟨(zP_k (by omega)).trans (by rw [h.1]), (zHo_pI (by omega)).trans h.2.1, zC_congr (fun a q1 q2 => ?_) ?_ ?_ ?_ ?_ h.2.2⟩
  · exact zu_nef (by omega)
  · rw [zu_id, if_neg (by omega)]
  · rw [zu_id, if_neg (by omega)]
  · rw [zu_id, if_neg (by omega)]
  · rw [zu_id, if_neg (by omega)]
/-! the class's questions write its names and what waits, no more -/
def zfo (s t : yb_S) : Prop := (∀ id, id ≠ 90 → id ≠ 91 → t.1 id = s.1 id) ∧ t.2 = s.2
theorem zfo_refl (s : yb_S) : zfo s s := ⟨fun _ _ _ => rfl, rfl⟩
theorem zfo_trans {s t u : yb_S} (h : zfo s t) (k : zfo t u) : zfo s u := ⟨fun id a b => (k.1 id a b).trans (h.1 id a b), k.2.trans h.2⟩
theorem zfo_w {s : yb_S} {id k : Nat} {x : Int32} (hid : id = 90 ∨ id = 91) : zfo s (yb_pI s id k x) := ⟨fun a h1 h2 => zu_nef (by omega), rfl⟩
theorem zfo_A {M m s t : yb_S} (h : zfo s t) (q : zA M m s) : zA M m t := by
  have e1 : zO t = zO s := by
    apply Prod.ext
    · funext id k
      show (if zeO id k then t.1 id k else 0) = (if zeO id k then s.1 id k else 0)
      by_cases hk : zeO id k = true
      · rw [if_pos hk, if_pos hk, h.1 id (fun e => by subst e; cases hk) (fun e => by subst e; cases hk)]
      · rw [if_neg hk, if_neg hk]
    · funext id k
      show (if id < 176 then t.2 id k else 0) = (if id < 176 then s.2 id k else 0)
      rw [h.2]
  have e2 : zHm t = zHm s := by
    apply Prod.ext
    · funext id
      exact h.1 (id + 176) (by omega) (by omega)
    · funext id
      show t.2 (id + 176) = s.2 (id + 176)
      rw [h.2]
  exact ⟨by rw [e1]; exact q.1, e2.trans q.2⟩
/-- the class's other scratch -/
theorem zA_w {M m s : yb_S} (h : zA M m s) {id k : Nat} {x : Int32} (hid : id = 90 ∨ id = 91 ∨ (93 ≤ id ∧ id < 96) ∨ (97 ≤ id ∧ id < 100) ∨ id = 101 ∨ id = 102 ∨ (128 ≤ id ∧ id < 137)) : zA M m (yb_pI s id k x) :=
  ⟨by rw [zO_s (by omega)]; exact h.1, (zHm_pI (by omega)).trans h.2⟩
theorem zA_92 {M m s : yb_S} (h : zA M m s) {k : Nat} {x : Int32} (hk : k = 1 ∨ k = 2 ∨ k = 10 ∨ k = 11) : zA M m (yb_pI s 92 k x) :=
  ⟨by rw [zO_92s (by omega)]; exact h.1, (zHm_pI (by omega)).trans h.2⟩
theorem zA_100 {M m s : yb_S} (h : zA M m s) {x : Int32} : zA M m (yb_pI s 100 4 x) :=
  ⟨by rw [zO_100s]; exact h.1, (zHm_pI (by omega)).trans h.2⟩
/-! the whole call out of its two sides -/
theorem zHm_C {s t : yb_S} (h : zHm t = zHm s) (hC : zC s) : zC t := by
  have h1 : ∀ id, 176 ≤ id → t.1 id = s.1 id := fun id hid => by
    have := congrFun (congrArg Prod.fst h) (id - 176)
    simpa [zHm, Nat.sub_add_cancel hid] using this
  refine zC_congr (fun id q1 q2 => h1 id (by omega)) ?_ ?_ ?_ ?_ hC <;> rw [h1 176 (by omega)]
theorem z_call {A B : yb_S → Option (Int32 × yb_S)} {s : yb_S} (h : zInv s) (r : Int32) (M' : yb_S) (hA : ∀ m t, zA (zP s) m t → zs_P (A t) (fun q => q.1 = r ∧ zA M' m q.2)) (hB : ∀ o t, zQ (zP s) o t → zs_P (B t) (fun q => q.1 = r ∧ zQ M' o q.2)) (hW : zW M') (h58 : M'.1 176 58 = -1) : ∃ (r : Int32) (s1 s2 : yb_S), A s = some (r, s1) ∧ B s1 = some (r, s2) ∧ zInv s2 := by
  obtain ⟨⟨r1, s1⟩, e1, rfl, hA1⟩ := hA (zHm s) s ⟨h.2.1, rfl⟩
  have hP1 : zP s1 = zP s := zP_of hA1.2
  obtain ⟨⟨r2, s2⟩, e2, hr, hB2⟩ := hB (zHo s1) s1 ⟨hP1, rfl, zHm_C hA1.2 h.2.2.1⟩
  have hr : r2 = r1 := hr
  subst hr
  refine ⟨r2, s1, s2, e1, e2, ?_, ?_, hB2.2.2, ?_⟩
  · rw [hB2.1]
    exact hW
  · rw [hB2.1, zO_of hB2.2.1]
    exact hA1.1
  · have : s2.1 176 58 = (zP s2).1 176 58 := (zP_rd rfl).symm
    rw [this, hB2.1]
    exact h58
theorem z_b58 {s : yb_S} (h : zInv s) : (zP s).1 176 58 = -1 := h.2.2.2
/-- a question: the picture stays -/
theorem z_ask {A B : yb_S → Option (Int32 × yb_S)} {s : yb_S} (h : zInv s) (r : Int32) (hA : ∀ m t, zA (zP s) m t → zs_P (A t) (fun q => q.1 = r ∧ zA (zP s) m q.2)) (hB : ∀ o t, zQ (zP s) o t → zs_P (B t) (fun q => q.1 = r ∧ zQ (zP s) o q.2)) : ∃ (r : Int32) (s1 s2 : yb_S), A s = some (r, s1) ∧ B s1 = some (r, s2) ∧ zInv s2 := z_call h r (zP s) hA hB h.1 (z_b58 h)
/-- a question that writes nothing on either side -/
theorem z_ask0 {A B : yb_S → Option Int32} {s : yb_S} (h : zInv s) (r : Int32) (hA : ∀ m t, zA (zP s) m t → A t = some r) (hB : ∀ o t, zQ (zP s) o t → B t = some r) : ∃ (r : Int32) (s1 s2 : yb_S), (A s = some r ∧ s1 = s) ∧ (B s1 = some r ∧ s2 = s1) ∧ zInv s2 :=
  ⟨r, s, s, ⟨hA (zHm s) s ⟨h.2.1, rfl⟩, rfl⟩, ⟨hB (zHo s) s ⟨rfl, rfl, h.2.2.1⟩, rfl⟩, h⟩
theorem z_ask1 {A : yb_S → Option Int32} {B : yb_S → Option (Int32 × yb_S)} {s : yb_S} (h : zInv s) (r : Int32) (hA : ∀ m t, zA (zP s) m t → A t = some r) (hB : ∀ o t, zQ (zP s) o t → zs_P (B t) (fun q => q.1 = r ∧ zQ (zP s) o q.2)) : ∃ (r : Int32) (s1 s2 : yb_S), (A s = some r ∧ s1 = s) ∧ B s1 = some (r, s2) ∧ zInv s2 := by
  obtain ⟨r', s1, s2, e1, e2, e3⟩ := z_ask (A := fun t => (A t).bind fun r => some (r, t)) h r (fun m t ht => ⟨(r, t), by rw [hA m t ht]; rfl, rfl, ht⟩) hB
  rw [hA (zHm s) s ⟨h.2.1, rfl⟩] at e1
  cases e1
  exact ⟨r, s, s2, ⟨hA (zHm s) s ⟨h.2.1, rfl⟩, rfl⟩, e2, e3⟩
/-! what is known of the reference's half -/
theorem zw_T {M : yb_S} (h : zW M) : M.1 176 6 = zi (nT M) := h.1.1
theorem zw_T8 {M : yb_S} (h : zW M) : nT M ≤ 8 := h.1.2.1
theorem zw_H {M : yb_S} (h : zW M) : M.1 176 15 = zi (nH M) := h.1.2.2.1
theorem zw_H8 {M : yb_S} (h : zW M) : nH M ≤ 24 := h.1.2.2.2.1
theorem zw_F {M : yb_S} (h : zW M) : M.1 176 27 = zi (nF M) := h.1.2.2.2.2.1
theorem zw_F8 {M : yb_S} (h : zW M) : nF M ≤ 24 := h.1.2.2.2.2.2.1
theorem zw_R {M : yb_S} (h : zW M) : M.1 176 36 = zi (nR M) := h.1.2.2.2.2.2.2.1
theorem zw_R8 {M : yb_S} (h : zW M) : nR M ≤ 60 := h.1.2.2.2.2.2.2.2.1
theorem zw_K {M : yb_S} (h : zW M) : M.1 176 40 = zi (nK M) := h.1.2.2.2.2.2.2.2.2.1
theorem zw_K8 {M : yb_S} (h : zW M) : nK M ≤ 40 := h.1.2.2.2.2.2.2.2.2.2
theorem zw_X {M : yb_S} (h : zW M) : M.1 176 44 = zi (nX M) := h.2.1.1
theorem zw_X8 {M : yb_S} (h : zW M) : nX M ≤ 500 := h.2.1.2.1
theorem zw_S {M : yb_S} (h : zW M) : M.1 176 54 = zi (nS M) := h.2.1.2.2.1
theorem zw_S8 {M : yb_S} (h : zW M) : nS M ≤ 10 := h.2.1.2.2.2.1
theorem zw_D {M : yb_S} (h : zW M) : M.1 176 7 = zi (nD M) := h.2.1.2.2.2.2.1
theorem zw_D8 {M : yb_S} (h : zW M) : nD M ≤ 200 := h.2.1.2.2.2.2.2.1
theorem zw_B {M : yb_S} (h : zW M) : M.1 176 84 = zi (nB M) := h.2.1.2.2.2.2.2.2.1
theorem zw_B8 {M : yb_S} (h : zW M) : nB M ≤ 40 := h.2.1.2.2.2.2.2.2.2.1
theorem zw_G {M : yb_S} (h : zW M) : M.1 176 85 = zi (nG M) := h.2.1.2.2.2.2.2.2.2.2.1
theorem zw_G8 {M : yb_S} (h : zW M) : nG M ≤ 40 := h.2.1.2.2.2.2.2.2.2.2.2.1
theorem zw_8 {M : yb_S} (h : zW M) : ∃ n, n ≤ 200 ∧ M.1 176 8 = zi n := h.2.1.2.2.2.2.2.2.2.2.2.2
theorem zw_f {M : yb_S} (h : zW M) {f : Nat} (hf : f < nF M) : (∃ q, q < 10 ∧ M.1 189 f = zi q) ∧ (∃ c, c < 6 ∧ M.1 194 f = zi c) ∧ (M.1 195 f = 0 ∨ M.1 195 f = 1 ∨ M.1 195 f = 2) ∧ ((M.1 195 f = 1 ∧ ∃ h, h < nH M ∧ M.1 196 f = zi h) ∨ (M.1 195 f ≠ 1 ∧ M.1 196 f = -1)) ∧ (M.1 199 f = -1 ∨ ∃ t, t < nT M ∧ M.1 199 f = zi t) ∧ (∃ d, d ≤ nD M ∧ M.1 198 f = zi d) := h.2.2.2.2.1 f hf
theorem zw_h {M : yb_S} (h : zW M) {f : Nat} (hf : f < nH M) : (∃ t, t < nT M ∧ M.1 183 f = zi t) ∧ (∃ q, q < 5 ∧ M.1 186 f = zi q) := h.2.2.2.1 f hf
theorem zw_t {M : yb_S} (h : zW M) {f : Nat} (hf : f < nT M) : ∃ m, m < 1000 ∧ M.1 177 f = zi m := h.2.2.1 f hf
/-! what the class's cells hold -/
theorem cq_T {M m s : yb_S} (h : zA M m s) : s.1 2 0 = M.1 176 6 := h.1.1.1
theorem cq_3 {M m s : yb_S} (h : zA M m s) {t : Nat} (hv : t < nT M) : s.1 3 t = M.1 177 t := (h.1.1.2.1 t hv).1
theorem cq_4 {M m s : yb_S} (h : zA M m s) {t : Nat} (hv : t < nT M) : s.1 4 t = M.1 178 t := (h.1.1.2.1 t hv).2.1
theorem cq_5 {M m s : yb_S} (h : zA M m s) {t : Nat} (hv : t < nT M) : s.1 5 t = M.1 179 t := (h.1.1.2.1 t hv).2.2.1
theorem cq_6 {M m s : yb_S} (h : zA M m s) {t : Nat} (hv : t < nT M) : s.1 6 t = M.1 180 t := (h.1.1.2.1 t hv).2.2.2
theorem cq_7 {M m s : yb_S} (h : zA M m s) {t : Nat} (hv : t < 8) : s.1 7 t = M.1 182 t := (h.1.1.2.2 t hv).1
theorem cq_12 {M m s : yb_S} (h : zA M m s) {t : Nat} (hv : t < 8) : s.2 12 t = M.2 181 t := (h.1.1.2.2 t hv).2
theorem cq_8 {M m s : yb_S} (h : zA M m s) {t : Nat} (hv : t < 8) : s.1 8 t = zRooms M (zi t) := (h.1.2.1.1 t hv).1
theorem cq_9 {M m s : yb_S} (h : zA M m s) {t : Nat} (hv : t < 8) : s.1 9 t = zHeads M (zi t) := (h.1.2.1.1 t hv).2.1
theorem cq_10 {M m s : yb_S} (h : zA M m s) {t : Nat} (hv : t < 8) : s.1 10 t = zPup M (zi t) (-1) := (h.1.2.1.1 t hv).2.2.1
theorem cq_11 {M m s : yb_S} (h : zA M m s) {t : Nat} (hv : t < 8) : s.1 11 t = zLodg M t := (h.1.2.1.1 t hv).2.2.2
theorem cq_20 {M m s : yb_S} (h : zA M m s) {t : Nat} (hv : t < nH M) : s.1 20 t = zLodger M t := h.1.2.1.2.1 t hv
theorem cq_30 {M m s : yb_S} (h : zA M m s) {t : Nat} (hv : t < nF M) : s.1 30 t = zTown M t := h.1.2.1.2.2 t hv
theorem cq_H {M m s : yb_S} (h : zA M m s) : s.1 13 0 = M.1 176 15 := h.1.2.2.1.1
theorem cq_14 {M m s : yb_S} (h : zA M m s) {t : Nat} (hv : t < nH M) : s.1 14 t = M.1 183 t := (h.1.2.2.1.2 t hv).1
theorem cq_15 {M m s : yb_S} (h : zA M m s) {t : Nat} (hv : t < nH M) : s.1 15 t = M.1 184 t := (h.1.2.2.1.2 t hv).2.1
theorem cq_16 {M m s : yb_S} (h : zA M m s) {t : Nat} (hv : t < nH M) : s.1 16 t = M.1 185 t := (h.1.2.2.1.2 t hv).2.2.1
theorem cq_17 {M m s : yb_S} (h : zA M m s) {t : Nat} (hv : t < nH M) : s.1 17 t = M.1 186 t := (h.1.2.2.1.2 t hv).2.2.2.1
theorem cq_18 {M m s : yb_S} (h : zA M m s) {t : Nat} (hv : t < nH M) : s.1 18 t = M.1 187 t := (h.1.2.2.1.2 t hv).2.2.2.2.1
theorem cq_19 {M m s : yb_S} (h : zA M m s) {t : Nat} (hv : t < nH M) : s.1 19 t = M.1 188 t := (h.1.2.2.1.2 t hv).2.2.2.2.2
theorem cq_F {M m s : yb_S} (h : zA M m s) : s.1 21 0 = M.1 176 27 := h.1.2.2.2.1.1
theorem cq_22 {M m s : yb_S} (h : zA M m s) {t : Nat} (hv : t < nF M) : s.1 22 t = M.1 189 t := (h.1.2.2.2.1.2 t hv).1
theorem cq_23 {M m s : yb_S} (h : zA M m s) {t : Nat} (hv : t < nF M) : s.1 23 t = M.1 190 t := (h.1.2.2.2.1.2 t hv).2.1
theorem cq_24 {M m s : yb_S} (h : zA M m s) {t : Nat} (hv : t < nF M) : s.1 24 t = M.1 191 t := (h.1.2.2.2.1.2 t hv).2.2.1
theorem cq_25 {M m s : yb_S} (h : zA M m s) {t : Nat} (hv : t < nF M) : s.1 25 t = M.1 192 t := (h.1.2.2.2.1.2 t hv).2.2.2.1
theorem cq_26 {M m s : yb_S} (h : zA M m s) {t : Nat} (hv : t < nF M) : s.1 26 t = M.1 193 t := (h.1.2.2.2.1.2 t hv).2.2.2.2.1
theorem cq_27 {M m s : yb_S} (h : zA M m s) {t : Nat} (hv : t < nF M) : s.1 27 t = M.1 194 t := (h.1.2.2.2.1.2 t hv).2.2.2.2.2.1
theorem cq_28 {M m s : yb_S} (h : zA M m s) {t : Nat} (hv : t < nF M) : s.1 28 t = M.1 195 t := (h.1.2.2.2.1.2 t hv).2.2.2.2.2.2.1
theorem cq_29 {M m s : yb_S} (h : zA M m s) {t : Nat} (hv : t < nF M) : s.1 29 t = M.1 196 t := (h.1.2.2.2.1.2 t hv).2.2.2.2.2.2.2.1
theorem cq_31 {M m s : yb_S} (h : zA M m s) {t : Nat} (hv : t < nF M) : s.1 31 t = M.1 197 t := (h.1.2.2.2.1.2 t hv).2.2.2.2.2.2.2.2.1
theorem cq_32 {M m s : yb_S} (h : zA M m s) {t : Nat} (hv : t < nF M) : s.1 32 t = M.1 198 t := (h.1.2.2.2.1.2 t hv).2.2.2.2.2.2.2.2.2.1
theorem cq_33 {M m s : yb_S} (h : zA M m s) {t : Nat} (hv : t < nF M) : s.1 33 t = M.1 199 t := (h.1.2.2.2.1.2 t hv).2.2.2.2.2.2.2.2.2.2
theorem cq_35 {M m s : yb_S} (h : zA M m s) {c d : Nat} (hc : c < 6) (hd : d < 6) : s.1 (35 + 1 * c) d = M.1 (201 + c) d := by
  have e := h.1.2.2.2.2.1 c hc d hd
  rw [zO_rd (zeO_t (by omega)), Nat.mod_eq_of_lt hc] at e
  rw [Nat.one_mul]
  exact e
theorem cq_R {M m s : yb_S} (h : zA M m s) : s.1 41 0 = M.1 176 36 := h.1.2.2.2.2.2.1.1
theorem cq_K {M m s : yb_S} (h : zA M m s) : s.1 41 8 = M.1 176 40 := h.1.2.2.2.2.2.1.2.1
theorem cq_42 {M m s : yb_S} (h : zA M m s) {t : Nat} (hv : t < nR M) : s.1 42 t = M.1 207 t := (h.1.2.2.2.2.2.1.2.2.1 t hv).1
theorem cq_43 {M m s : yb_S} (h : zA M m s) {t : Nat} (hv : t < nR M) : s.1 43 t = M.1 208 t := (h.1.2.2.2.2.2.1.2.2.1 t hv).2.1
theorem cq_44 {M m s : yb_S} (h : zA M m s) {t : Nat} (hv : t < nR M) : s.1 44 t = M.1 209 t := (h.1.2.2.2.2.2.1.2.2.1 t hv).2.2.1
theorem cq_45 {M m s : yb_S} (h : zA M m s) {t : Nat} (hv : t < nR M) : s.1 45 t = M.1 210 t := (h.1.2.2.2.2.2.1.2.2.1 t hv).2.2.2.1
theorem cq_46 {M m s : yb_S} (h : zA M m s) {t : Nat} (hv : t < nR M) : s.1 46 t = M.1 211 t := (h.1.2.2.2.2.2.1.2.2.1 t hv).2.2.2.2.1
theorem cq_47 {M m s : yb_S} (h : zA M m s) {t : Nat} (hv : t < nR M) : s.1 47 t = M.1 212 t := (h.1.2.2.2.2.2.1.2.2.1 t hv).2.2.2.2.2.1
theorem cq_48 {M m s : yb_S} (h : zA M m s) {t : Nat} (hv : t < nR M) : s.1 48 t = M.1 213 t := (h.1.2.2.2.2.2.1.2.2.1 t hv).2.2.2.2.2.2
theorem cq_49 {M m s : yb_S} (h : zA M m s) {t : Nat} (hv : t < nK M) : s.1 49 t = M.1 214 t := (h.1.2.2.2.2.2.1.2.2.2 t hv).1
theorem cq_50 {M m s : yb_S} (h : zA M m s) {t : Nat} (hv : t < nK M) : s.1 50 t = M.1 215 t := (h.1.2.2.2.2.2.1.2.2.2 t hv).2.1
theorem cq_51 {M m s : yb_S} (h : zA M m s) {t : Nat} (hv : t < nK M) : s.1 51 t = M.1 216 t := (h.1.2.2.2.2.2.1.2.2.2 t hv).2.2
theorem cq_52 {M m s : yb_S} (h : zA M m s) {t : Nat} (hv : t < 24) : s.1 52 t = zbits (fun q => (t != q) && zFinds M t q) (nF M) := (h.1.2.2.2.2.2.2.1 t hv).1
theorem cq_53 {M m s : yb_S} (h : zA M m s) {t : Nat} (hv : t < 24) : s.1 53 t = zbits (fun q => zKin M t q) (nF M) := (h.1.2.2.2.2.2.2.1 t hv).2
theorem cq_S {M m s : yb_S} (h : zA M m s) : s.1 54 0 = M.1 176 54 := h.1.2.2.2.2.2.2.2.1.1
theorem cq_I {M m s : yb_S} (h : zA M m s) : s.1 54 1 = M.1 176 58 := h.1.2.2.2.2.2.2.2.1.2.1
theorem cq_55 {M m s : yb_S} (h : zA M m s) {t : Nat} (hv : t < nS M) : s.1 55 t = M.1 333 t := (h.1.2.2.2.2.2.2.2.1.2.2 t hv).1
theorem cq_56 {M m s : yb_S} (h : zA M m s) {t : Nat} (hv : t < nS M) : s.1 56 t = M.1 334 t := (h.1.2.2.2.2.2.2.2.1.2.2 t hv).2.1
theorem cq_D {M m s : yb_S} (h : zA M m s) : s.1 1 5 = M.1 176 7 := h.1.2.2.2.2.2.2.2.2.1.1
theorem cq_N {M m s : yb_S} (h : zA M m s) : s.1 1 6 = M.1 176 8 := h.1.2.2.2.2.2.2.2.2.1.2.1
theorem cq_P {M m s : yb_S} (h : zA M m s) : s.1 1 7 = zThere M := h.1.2.2.2.2.2.2.2.2.1.2.2
theorem cq_X {M m s : yb_S} (h : zA M m s) : s.1 92 0 = M.1 176 44 := h.1.2.2.2.2.2.2.2.2.2.1.1
theorem cq_96 {M m s : yb_S} (h : zA M m s) {t : Nat} (hv : t < nX M) : s.1 96 t = M.1 242 t &&& 255 := h.1.2.2.2.2.2.2.2.2.2.1.2 t hv
theorem cq_B {M m s : yb_S} (h : zA M m s) : s.1 172 0 = M.1 176 84 := h.1.2.2.2.2.2.2.2.2.2.2.2.2.1
theorem cq_G {M m s : yb_S} (h : zA M m s) : s.1 172 1 = M.1 176 85 := h.1.2.2.2.2.2.2.2.2.2.2.2.2.2.1
theorem cq_173 {M m s : yb_S} (h : zA M m s) {t : Nat} (hv : t < 201) : s.1 173 t = zsum (fun k => cond (M.1 598 k == zi t) (M.1 599 k) 0) (nB M) := (h.1.2.2.2.2.2.2.2.2.2.2.2.2.2.2 t hv).1
theorem cq_174 {M m s : yb_S} (h : zA M m s) {t : Nat} (hv : t < 201) : s.1 174 t = zsum (fun k => cond (M.1 598 k == zi t) (M.1 600 k) 0) (nB M) := (h.1.2.2.2.2.2.2.2.2.2.2.2.2.2.2 t hv).2.1
theorem cq_175 {M m s : yb_S} (h : zA M m s) {t : Nat} (hv : t < 201) : s.1 175 t = zsum (fun k => cond (M.1 601 k == zi t) (M.1 602 k) 0) (nG M) := (h.1.2.2.2.2.2.2.2.2.2.2.2.2.2.2 t hv).2.2
/-! who is there -/
theorem zo_hTt {M m s : yb_S} (hW : zW M) (h : zA M m s) {k : Nat} (hk : k < nT M) : f_X10_has (zi k) s = some 1 := zo_has10t ((cq_T h).trans (zw_T hW)) (zw_T8 hW) hk
theorem zo_hTf {M m s : yb_S} (hW : zW M) (h : zA M m s) {a : Int32} (hk : ¬ zin a (nT M)) : f_X10_has a s = some 0 := zo_has10f ((cq_T h).trans (zw_T hW)) (zw_T8 hW) hk
theorem zo_hHt {M m s : yb_S} (hW : zW M) (h : zA M m s) {k : Nat} (hk : k < nH M) : f_X4_has (zi k) s = some 1 := zo_has4t ((cq_H h).trans (zw_H hW)) (zw_H8 hW) hk
theorem zo_hHf {M m s : yb_S} (hW : zW M) (h : zA M m s) {a : Int32} (hk : ¬ zin a (nH M)) : f_X4_has a s = some 0 := zo_has4f ((cq_H h).trans (zw_H hW)) (zw_H8 hW) hk
theorem zo_hFt {M m s : yb_S} (hW : zW M) (h : zA M m s) {k : Nat} (hk : k < nF M) : f_X2_has (zi k) s = some 1 := zo_has2t ((cq_F h).trans (zw_F hW)) (zw_F8 hW) hk
theorem zo_hFf {M m s : yb_S} (hW : zW M) (h : zA M m s) {a : Int32} (hk : ¬ zin a (nF M)) : f_X2_has a s = some 0 := zo_has2f ((cq_F h).trans (zw_F hW)) (zw_F8 hW) hk
theorem zo_hSt {M m s : yb_S} (hW : zW M) (h : zA M m s) {k : Nat} (hk : k < nS M) : f_X5_has (zi k) s = some 1 := zo_has5t ((cq_S h).trans (zw_S hW)) (zw_S8 hW) hk
theorem zo_hSf {M m s : yb_S} (hW : zW M) (h : zA M m s) {a : Int32} (hk : ¬ zin a (nS M)) : f_X5_has a s = some 0 := zo_has5f ((cq_S h).trans (zw_S hW)) (zw_S8 hW) hk
theorem zo_hRt {M m s : yb_S} (hW : zW M) (h : zA M m s) {k : Nat} (hk : k < nR M) : f_X7_has (zi k) s = some 1 := zo_has7t ((cq_R h).trans (zw_R hW)) (zw_R8 hW) hk
theorem zo_hRf {M m s : yb_S} (hW : zW M) (h : zA M m s) {a : Int32} (hk : ¬ zin a (nR M)) : f_X7_has a s = some 0 := zo_has7f ((cq_R h).trans (zw_R hW)) (zw_R8 hW) hk
theorem zm_hTt {M o s : yb_S} (hW : zW M) (h : zQ M o s) {k : Nat} (hk : k < nT M) : f_X12_isTown (zi k) s = some 1 := zm_isTownt ((zqk h (by omega)).trans (zw_T hW)) (zw_T8 hW) hk
theorem zm_hTf {M o s : yb_S} (hW : zW M) (h : zQ M o s) {a : Int32} (hk : ¬ zin a (nT M)) : f_X12_isTown a s = some 0 := zm_isTownf ((zqk h (by omega)).trans (zw_T hW)) (zw_T8 hW) hk
theorem zm_hHt {M o s : yb_S} (hW : zW M) (h : zQ M o s) {k : Nat} (hk : k < nH M) : f_X12_isHome (zi k) s = some 1 := zm_isHomet ((zqk h (by omega)).trans (zw_H hW)) (zw_H8 hW) hk
theorem zm_hHf {M o s : yb_S} (hW : zW M) (h : zQ M o s) {a : Int32} (hk : ¬ zin a (nH M)) : f_X12_isHome a s = some 0 := zm_isHomef ((zqk h (by omega)).trans (zw_H hW)) (zw_H8 hW) hk
theorem zm_hFt {M o s : yb_S} (hW : zW M) (h : zQ M o s) {k : Nat} (hk : k < nF M) : f_X12_isFamily (zi k) s = some 1 := zm_isFamilyt ((zqk h (by omega)).trans (zw_F hW)) (zw_F8 hW) hk
theorem zm_hFf {M o s : yb_S} (hW : zW M) (h : zQ M o s) {a : Int32} (hk : ¬ zin a (nF M)) : f_X12_isFamily a s = some 0 := zm_isFamilyf ((zqk h (by omega)).trans (zw_F hW)) (zw_F8 hW) hk
theorem zm_hRt {M o s : yb_S} (hW : zW M) (h : zQ M o s) {k : Nat} (hk : k < nR M) : f_X12_isRecord (zi k) s = some 1 := zm_isRecordt ((zqk h (by omega)).trans (zw_R hW)) (zw_R8 hW) hk
theorem zm_hRf {M o s : yb_S} (hW : zW M) (h : zQ M o s) {a : Int32} (hk : ¬ zin a (nR M)) : f_X12_isRecord a s = some 0 := zm_isRecordf ((zqk h (by omega)).trans (zw_R hW)) (zw_R8 hW) hk
theorem zin_m {n : Nat} (hn : n < 2147483648) : ¬ zin (-1) n := by
  rintro ⟨k, hk, e⟩
  exact absurd e.symm (by rw [show (zi k = -1) = False from zi_m1 (by omega)]; exact id)
/-! loops that may leave early -/
theorem zs_exE {α β : Type} {F : (α → Option β) → α → Option β} (A : Nat → α) (m : Nat) (r : β) (I : Nat → Prop) (h : ∀ (k : Nat) (rc : α → Option β), k < m → I k → F rc (A k) = some r ∨ (F rc (A k) = rc (A (k + 1)) ∧ I (k + 1))) (hx : I m → ∀ rc : α → Option β, F rc (A m) = some r) : ∀ (n k : Nat), k ≤ m → m - k < n → I k → yb_it F n (A k) = some r
  | 0, k, hk, hn, hI => absurd hn (Nat.not_lt_zero _)
  | n + 1, k, hk, hn, hI => by
    show F (yb_it F n) (A k) = some r
    rcases Nat.lt_or_ge k m with hlt | hge
    · rcases h k (yb_it F n) hlt hI with e | ⟨e, hI'⟩
      · exact e
      · rw [e]
        exact zs_exE A m r I h hx n (k + 1) hlt (by omega) hI'
    · have hkm := Nat.le_antisymm hk hge
      subst hkm
      exact hx hI _
theorem zs_dnE {α β : Type} {F : (α → Option β) → α → Option β} (A : Nat → α) (r : Nat → β) (m : Nat) (h0 : ∀ rc : α → Option β, F rc (A 0) = some (r 0)) (h : ∀ (k : Nat) (rc : α → Option β), k < m → F rc (A (k + 1)) = some (r (k + 1)) ∨ (F rc (A (k + 1)) = rc (A k) ∧ r (k + 1) = r k)) : ∀ (n k : Nat), k ≤ m → k < n → yb_it F n (A k) = some (r k)
  | 0, k, _, hn => absurd hn (Nat.not_lt_zero _)
  | n + 1, 0, _, hn => h0 _
  | n + 1, k + 1, hk, hn => by
    show F (yb_it F n) (A (k + 1)) = some (r (k + 1))
    rcases h k (yb_it F n) hk with e | ⟨e, e2⟩
    · exact e
    · rw [e, e2]
      exact zs_dnE A r m h0 h n k (by omega) (by omega)
theorem zi_gt {a : Nat} : zi (a + 1) - 1 = zi a := by
  rw [zi_pred (by omega)]
  rfl
theorem zsum_0 {g : Nat → Int32} : zsum g 0 = 0 := rfl
theorem zc_b (a b : Int32) : (a == b) = decide (a = b) := rfl
