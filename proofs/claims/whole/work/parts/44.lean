/-! heaps joined and parted -/
def zHp (M : yb_S) (hp : Nat → Int32) : yb_S := (fun id k => if id = 213 then hp k else M.1 id k, M.2)
theorem zHp_c {M : yb_S} {hp : Nat → Int32} {id : Nat} (h : id ≠ 213) : (zHp M hp).1 id = M.1 id := funext fun k => if_neg h
theorem zHp_1 {M : yb_S} {hp : Nat → Int32} : (zHp M hp).1 213 = hp := funext fun k => (if_pos rfl : (if 213 = 213 then hp k else M.1 213 k) = hp k)
theorem zHp_w {M : yb_S} {hp : Nat → Int32} {k : Nat} {v : Int32} : yb_pI (zHp M hp) 213 k v = zHp M (fun i => if i = k then v else hp i) := by
  apply Prod.ext
  · funext a b
    rw [zu_rd]
    show (if a = 213 then (if b = k then v else if a = 213 then hp b else M.1 a b) else if a = 213 then hp b else M.1 a b) = if a = 213 then (if b = k then v else hp b) else M.1 a b
    by_cases e : a = 213
    · rw [if_pos e, if_pos e, if_pos e]
    · rw [if_neg e, if_neg e, if_neg e]
  · rfl
theorem zHp_id {M : yb_S} : zHp M (M.1 213) = M := by
  apply Prod.ext
  · funext a b
    show (if a = 213 then M.1 213 b else M.1 a b) = M.1 a b
    by_cases e : a = 213
    · rw [if_pos e, e]
    · rw [if_neg e]
  · rfl
theorem zHp_N {M : yb_S} {hp : Nat → Int32} : nF (zHp M hp) = nF M ∧ nR (zHp M hp) = nR M ∧ nK (zHp M hp) = nK M := by
  unfold nF nR nK
  rw [zHp_c (by decide)]
  exact ⟨rfl, rfl, rfl⟩
theorem zHp_W {M : yb_S} {hp : Nat → Int32} (hW : zW M) (hh : ∀ r, r < nR M → ∃ q, q < nR M ∧ hp r = zi q) : zW (zHp M hp) := by
  obtain ⟨w1, w2, w3, w4, w5, w6, w7, w8, w9, w10, w11, w12, w13, w14⟩ := hW
  have c : ∀ {id}, id ≠ 213 → (zHp M hp).1 id = M.1 id := fun h => zHp_c h
  have c2 : (zHp M hp).2 = M.2 := rfl
  refine ⟨?_, ?_, ?_, ?_, ?_, ?_, ?_, ?_, ?_, ?_, ?_, ?_, ?_, ?_⟩
  · have q := w1
    simp (disch := omega) only [zW1, nT, nH, nF, nR, nK, c, c2] at q ⊢
    exact q
  · have q := w2
    simp (disch := omega) only [zW2, nX, nS, nD, nB, nG, c, c2] at q ⊢
    exact q
  · have q := w3
    simp (disch := omega) only [zWt, nT, c, c2] at q ⊢
    exact q
  · have q := w4
    simp (disch := omega) only [zWh, nT, nH, c, c2] at q ⊢
    exact q
  · have q := w5
    simp (disch := omega) only [zWf, nF, nH, nT, nD, c, c2] at q ⊢
    exact q
  · have q := w6
    simp (disch := omega) only [zWn, nF, nT, c, c2] at q ⊢
    exact q
  · have q := w7
    simp (disch := omega) only [zWu, nF, c, c2] at q ⊢
    exact q
  · have q := w8
    simp (disch := omega) only [zWa, c, c2] at q ⊢
    exact q
  · refine ⟨fun r hr => ?_, fun k hk => ?_⟩
    · have hr : r < nR M := by
        unfold nR at hr ⊢
        rwa [c (by decide)] at hr
      have q := w9.1 r hr
      rw [c (id := 209) (by decide), c (id := 212) (by decide), zHp_N.1, zHp_N.2.1, zHp_1]
      exact ⟨q.1, q.2.1, hh r hr⟩
    · have hk : k < nK M := by
        unfold nK at hk ⊢
        rwa [c (by decide)] at hk
      have q := w9.2 k hk
      rw [c (id := 214) (by decide), c (id := 216) (by decide), zHp_N.1]
      exact q
  · have q := w10
    simp (disch := omega) only [zWx, nX, c, c2] at q ⊢
    exact q
  · have q := w11
    simp (disch := omega) only [zWs, nS, c, c2] at q ⊢
    exact q
  · have q := w12
    simp (disch := omega) only [zWb, nD, nF, zDayH, c, c2] at q ⊢
    exact q
  · have q := w13
    simp (disch := omega) only [zWp, c, c2] at q ⊢
    exact q
  · have q := w14
    simp (disch := omega) only [zWg, nB, nG, c, c2] at q ⊢
    exact q
theorem zHp_R {o o' M : yb_S} {hp : Nat → Int32} (hR : zR0 o M) (ho : ∀ id k, id ≠ 48 → id ≠ 52 → id ≠ 53 → o'.1 id k = o.1 id k) (ho2 : o'.2 = o.2) (h48 : ∀ r, r < nR M → o'.1 48 r = hp r) : zR0 o' (zHp M hp) := by
  obtain ⟨r1, r2, r3, r4, r5, r6, r8, r9, r10, r11, r12, r13⟩ := hR
  have c : ∀ {id}, id ≠ 213 → (zHp M hp).1 id = M.1 id := fun h => zHp_c h
  have c2 : (zHp M hp).2 = M.2 := rfl
  have d : ∀ {id k}, (id ≠ 48 ∧ id ≠ 52 ∧ id ≠ 53) → o'.1 id k = o.1 id k := fun h => ho _ _ h.1 h.2.1 h.2.2
  refine ⟨?_, ?_, ?_, ?_, ?_, ?_, ?_, ?_, ?_, ?_, ?_, ?_⟩
  · have q := r1
    simp (disch := omega) only [zRt, nT, c, d, c2, ho2] at q ⊢
    exact q
  · have q := r2
    simp (disch := omega) only [zRc, zRooms, zHeads, zPup, zLodg, zLodger, zTown, nF, nH, c, d, c2, ho2] at q ⊢
    exact q
  · have q := r3
    simp (disch := omega) only [zRh, nH, c, d, c2, ho2] at q ⊢
    exact q
  · have q := r4
    simp (disch := omega) only [zRf, nF, c, d, c2, ho2] at q ⊢
    exact q
  · have q := r5
    simp (disch := omega) only [zRa, c, d, c2, ho2] at q ⊢
    exact q
  · refine ⟨?_, ?_, fun r hr => ?_, fun k hk => ?_⟩
    · rw [d (by omega), c (by decide)]
      exact r6.1
    · rw [d (by omega), c (by decide)]
      exact r6.2.1
    · rw [zHp_N.2.1] at hr
      have q := r6.2.2.1 r hr
      rw [zHp_1, h48 r hr]
      simp (disch := omega) only [c, d]
      exact ⟨q.1, q.2.1, q.2.2.1, q.2.2.2.1, q.2.2.2.2.1, q.2.2.2.2.2.1, trivial⟩
    · rw [zHp_N.2.2] at hk
      have q := r6.2.2.2 k hk
      simp (disch := omega) only [c, d]
      exact q
  · have q := r8
    simp (disch := omega) only [zRl, nS, c, d, c2, ho2] at q ⊢
    exact q
  · have q := r9
    simp (disch := omega) only [zRn, zThere, nF, c, d, c2, ho2] at q ⊢
    exact q
  · have q := r10
    simp (disch := omega) only [zRx, nX, c, d, c2, ho2] at q ⊢
    exact q
  · have q := r11
    simp (disch := omega) only [zRp, nF, c, d, c2, ho2] at q ⊢
    exact q
  · have q := r12
    simp (disch := omega) only [zRb, nD, nF, nT, c, d, c2, ho2] at q ⊢
    exact q
  · have q := r13
    simp (disch := omega) only [zRg, nB, nG, c, d, c2, ho2] at q ⊢
    exact q
def zConf (M : yb_S) (a b : Nat) : Bool := zany (fun x => zany (fun y => (M.1 213 x == M.1 213 a && M.1 213 y == M.1 213 b) && !zal M x y) (nR M)) (nR M)
theorem zConf_t {M : yb_S} {a b x y : Nat} (hx : x < nR M) (hy : y < nR M) (h1 : M.1 213 x = M.1 213 a) (h2 : M.1 213 y = M.1 213 b) (h3 : zal M x y = false) : zConf M a b = true := zany_t.mpr ⟨x, hx, zany_t.mpr ⟨y, hy, by rw [h1, h2, h3]; simp⟩⟩
def zNoC (M : yb_S) (a b x0 y0 : Nat) : Prop := ∀ x y, x < nR M → y < nR M → (x < x0 ∨ (x = x0 ∧ y < y0)) → M.1 213 x = M.1 213 a → M.1 213 y = M.1 213 b → zal M x y = true
theorem zConf_f {M : yb_S} {a b : Nat} (h : zNoC M a b (nR M) 0) : zConf M a b = false := by
  refine zany_f.mpr fun x hx => zany_f.mpr fun y hy => ?_
  by_cases h1 : M.1 213 x = M.1 213 a
  · by_cases h2 : M.1 213 y = M.1 213 b
    · rw [h x y hx hy (Or.inl hx) h1 h2]
      simp
    · rw [show (M.1 213 y == M.1 213 b) = false from beq_eq_false_iff_ne.mpr h2]
      simp
  · rw [show (M.1 213 x == M.1 213 a) = false from beq_eq_false_iff_ne.mpr h1]
    simp
theorem zNoC_s {M : yb_S} {a b x0 y0 : Nat} (h : zNoC M a b x0 y0) (hn : M.1 213 x0 = M.1 213 a → M.1 213 y0 = M.1 213 b → zal M x0 y0 = true) : zNoC M a b x0 (y0 + 1) := by
  intro x y hx hy hq h1 h2
  by_cases e : x = x0 ∧ y = y0
  · obtain ⟨rfl, rfl⟩ := e
    exact hn h1 h2
  · exact h x y hx hy (by omega) h1 h2
theorem zNoC_n {M : yb_S} {a b x0 : Nat} (h : zNoC M a b x0 (nR M)) : zNoC M a b (x0 + 1) 0 := fun x y hx hy hq h1 h2 => h x y hx hy (by omega) h1 h2
theorem zo_alikeR {M m s : yb_S} (hW : zW M) (hA : zA M m s) {a b : Nat} (ha : a < nR M) (hb : b < nR M) : f_X7_canBeAlike (zi a) (zi b) s = some (zb (zal M a b)) := by
  have hr := zA_r hA
  have hR8 := zw_R8 hW
  have ea := hr.2.2.1 a ha
  have eb := hr.2.2.1 b hb
  have ebar : f_X7_areBarred (zi a) (zi b) s = some (zb (zbar2 M a b)) := by
    unfold f_X7_areBarred zbar2
    simp (disch := omega) only [zi_rd, Option.bind_some, ea.2.2.2.1, ea.2.2.2.2.1, eb.2.2.2.1, eb.2.2.2.2.1]
    by_cases h1 : M.1 211 b < M.1 210 a
    · rw [if_pos h1, show zle (M.1 210 a) (M.1 211 b) = false from zle_f.mpr h1]
      rfl
    · rw [if_neg h1, show zle (M.1 210 a) (M.1 211 b) = true from zle_t.mpr (Int32.not_lt.mp h1)]
      by_cases h2 : M.1 211 a < M.1 210 b
      · rw [if_pos h2, show zle (M.1 210 b) (M.1 211 a) = false from zle_f.mpr h2]
        rfl
      · rw [if_neg h2, show zle (M.1 210 b) (M.1 211 a) = true from zle_t.mpr (Int32.not_lt.mp h2)]
        rfl
  unfold f_X7_canBeAlike zal
  rw [zo_hRt hW hA ha, zo_hRt hW hA hb, ebar]
  simp (disch := omega) only [zi_rd, Option.bind_some, ea.1, eb.1, zb_t0]
  rw [if_neg (by decide), if_neg (by decide)]
  by_cases h1 : M.1 207 a = M.1 207 b
  · rw [if_pos h1, show (M.1 207 a != M.1 207 b) = false from by simp [h1]]
    rfl
  · rw [if_neg h1, show (M.1 207 a != M.1 207 b) = true from by simp [h1]]
    cases zbar2 M a b <;> rfl
theorem zo_conf {M m s : yb_S} (hW : zW M) (hA : zA M m s) {a b : Nat} : zs_P (f_X7_canBeOneHeap (M.1 213 a) (M.1 213 b) s) (fun v => v = zb (!zConf M a b)) := by
  have hR8 := zw_R8 hW
  unfold f_X7_canBeOneHeap l_X7_canBeOneHeap_2
  refine zs_up (fun x q => q = zi x ∧ zNoC M a b x 0) (nR M) ?_ yb_N 0 _ (Nat.zero_le _) (by unfold yb_N; omega) ⟨rfl, fun x y _ _ hq => by omega⟩
  rintro x0 x rc hx ⟨rfl, i2⟩ hn
  show zs_P (f_X7_canBeOneHeap_2 (fun x3 => rc x3) _ _ s (zi x0)) _
  unfold f_X7_canBeOneHeap_2
  rw [cq_R hA, zw_R hW]
  rcases Nat.lt_or_ge x0 (nR M) with hlt | hge
  · rw [if_neg (by rw [zi_le (by omega) (by omega)]; omega)]
    unfold l_X7_canBeOneHeap_13
    refine zs_up (fun y q => q = zi y ∧ zNoC M a b x0 y) (nR M) ?_ yb_N 0 _ (Nat.zero_le _) (by unfold yb_N; omega) ⟨rfl, i2⟩
    rintro y0 y rc2 hy ⟨rfl, j2⟩ hn2
    show zs_P (f_X7_canBeOneHeap_13 (fun x3 => rc x3) (fun x3 => rc2 x3) _ _ (zi x0) s (zi y0)) _
    unfold f_X7_canBeOneHeap_13 j_X7_canBeOneHeap_55
    rw [cq_R hA, zw_R hW]
    rcases Nat.lt_or_ge y0 (nR M) with hly | hgy
    · rw [if_neg (by rw [zi_le (by omega) (by omega)]; omega), zi_rd (by omega) (by omega), Option.bind_some, cq_48 hA hlt, zi_rd (by omega) (by omega), Option.bind_some, cq_48 hA hly, zo_alikeR hW hA hlt hly, Option.bind_some, zi_succ]
      by_cases h1 : M.1 213 x0 = M.1 213 a
      · rw [if_pos h1]
        by_cases h2 : M.1 213 y0 = M.1 213 b
        · rw [if_pos h2]
          simp only [zb_t0]
          cases h3 : zal M x0 y0
          · rw [if_pos rfl, zConf_t hlt hly h1 h2 h3]
            exact zs_ret rfl
          · rw [if_neg (by decide)]
            exact hn2 hly _ ⟨rfl, zNoC_s j2 fun _ _ => h3⟩
        · rw [if_neg h2]
          exact hn2 hly _ ⟨rfl, zNoC_s j2 fun _ q => absurd q h2⟩
      · rw [if_neg h1]
        exact hn2 hly _ ⟨rfl, zNoC_s j2 fun q _ => absurd q h1⟩
    · have hkl := Nat.le_antisymm hy hgy
      subst hkl
      rw [if_pos (Int32.le_refl _), zi_succ]
      exact hn hlt _ ⟨rfl, zNoC_n j2⟩
  · have hkl := Nat.le_antisymm hx hge
    subst hkl
    rw [if_pos (Int32.le_refl _), zConf_f i2]
    exact zs_ret rfl
theorem zal_b {M : yb_S} {x y : Nat} : (zal M x y = false) = (M.1 207 x = M.1 207 y ∨ zbar2 M x y = true) := by
  unfold zal
  apply propext
  by_cases h1 : M.1 207 x = M.1 207 y
  · simp [h1]
  · simp [h1]
theorem zm_barM {M o s : yb_S} (hQ : zQ M o s) {a b : Nat} (ha : a < 60) (hb : b < 60) : f_X12_areBarred (zi a) (zi b) s = some (zb (zbar2 M a b)) := by
  rw [zm_barred ha hb]
  unfold zbar2
  simp (disch := omega) only [zq hQ]
theorem zm_conf {M o s : yb_S} (hW : zW M) (hQ : zQ M o s) {a b : Nat} (ha : a < nR M) (hb : b < nR M) {Q : Int32 × yb_S → Prop} (hno : zConf M a b = true → Q (-1, s)) (hgo : zConf M a b = false → zs_P (l_X12_join_136 (zi a) (M.1 213 b) yb_N (zi 0) s) Q) : zs_P (l_X12_join_35 (zi a) (zi b) s yb_N (zi 0)) Q := by
  have hR8 := zw_R8 hW
  unfold l_X12_join_35
  refine zs_up (fun x q => q = zi x ∧ zNoC M a b x 0) (nR M) ?_ yb_N 0 _ (Nat.zero_le _) (by unfold yb_N; omega) ⟨rfl, fun x y _ _ hq => by omega⟩
  rintro x0 x rc hx ⟨rfl, i2⟩ hn
  show zs_P (f_X12_join_35 (fun x3 => rc x3) _ _ s (zi x0)) _
  unfold f_X12_join_35
  rw [zqk hQ (by omega), zw_R hW]
  rcases Nat.lt_or_ge x0 (nR M) with hlt | hge
  · rw [if_neg (by rw [zi_le (by omega) (by omega)]; omega)]
    unfold l_X12_join_46
    refine zs_up (fun y q => q = zi y ∧ zNoC M a b x0 y) (nR M) ?_ yb_N 0 _ (Nat.zero_le _) (by unfold yb_N; omega) ⟨rfl, i2⟩
    rintro y0 y rc2 hy ⟨rfl, j2⟩ hn2
    show zs_P (f_X12_join_46 (fun x3 => rc x3) (fun x3 => rc2 x3) _ _ (zi x0) s (zi y0)) _
    unfold f_X12_join_46 j_X12_join_114
    rw [zqk hQ (by omega), zw_R hW]
    rcases Nat.lt_or_ge y0 (nR M) with hly | hgy
    · rw [if_neg (by rw [zi_le (by omega) (by omega)]; omega), zm_barM hQ (by omega) (by omega)]
      simp (disch := omega) only [zi_rd, Option.bind_some, zq hQ, zi_succ, zb_t0]
      by_cases h1 : M.1 213 x0 = M.1 213 a
      · rw [if_pos h1]
        by_cases h2 : M.1 213 y0 = M.1 213 b
        · rw [if_pos h2]
          by_cases h3 : M.1 207 x0 = M.1 207 y0
          · rw [if_pos h3]
            exact zs_ret (hno (zConf_t hlt hly h1 h2 (by rw [zal_b]; exact Or.inl h3)))
          · rw [if_neg h3]
            cases h4 : zbar2 M x0 y0
            · rw [if_pos rfl]
              refine hn2 hly _ ⟨rfl, zNoC_s j2 fun _ _ => ?_⟩
              cases e : zal M x0 y0
              · rw [zal_b] at e
                rcases e with e | e
                · exact absurd e h3
                · rw [h4] at e
                  cases e
              · rfl
            · rw [if_neg (by decide)]
              exact zs_ret (hno (zConf_t hlt hly h1 h2 (by rw [zal_b]; exact Or.inr h4)))
        · rw [if_neg h2]
          exact hn2 hly _ ⟨rfl, zNoC_s j2 fun _ q => absurd q h2⟩
      · rw [if_neg h1]
        exact hn2 hly _ ⟨rfl, zNoC_s j2 fun q _ => absurd q h1⟩
    · have hkl := Nat.le_antisymm hy hgy
      subst hkl
      rw [if_pos (Int32.le_refl _), zi_succ]
      exact hn hlt _ ⟨rfl, zNoC_n j2⟩
  · have hkl := Nat.le_antisymm hx hge
    subst hkl
    rw [if_pos (Int32.le_refl _), zi_rd (by omega) (by omega), Option.bind_some, zq hQ (by omega)]
    exact hgo (zConf_f i2)
theorem zm_heapSize {M s : yb_S} (hP : zP s = M) (hR : M.1 176 36 = zi (nR M)) (hR8 : nR M ≤ 60) {v : Int32} : f_X12_heapSize v s = some (zsum (fun r => cond (M.1 213 r == v) 1 0) (nR M)) := by
  unfold f_X12_heapSize l_X12_heapSize_4
  refine zs_upE (fun k => (zsum (fun r => cond (M.1 213 r == v) 1 0) k, zi k)) (nR M) _ ?_ ?_ yb_N 0 (Nat.zero_le _) (by unfold yb_N; omega)
  · intro k rc hk
    show f_X12_heapSize_4 _ _ _ (zsum _ k) (zi k) = _
    unfold f_X12_heapSize_4 j_X12_heapSize_28
    rw [zrPk hP (by omega), hR, if_neg (by rw [zi_le (by omega) (by omega)]; omega), zi_rd (by omega) (by omega), Option.bind_some, zrP hP (by omega), zi_succ, zsum_succ]
    by_cases e : M.1 213 k = v
    · simp [e]
    · simp [e, zc_b]
  · intro rc
    show f_X12_heapSize_4 _ _ _ (zsum _ (nR M)) (zi (nR M)) = _
    unfold f_X12_heapSize_4
    rw [zrPk hP (by omega), hR, if_pos (Int32.le_refl _)]
/-- the heaps after joining b's to a's, and after parting -/
def zhj (M : yb_S) (a b : Nat) (r : Nat) : Int32 := if r < nR M ∧ M.1 213 r = M.1 213 b then M.1 213 a else M.1 213 r
def zhp (M : yb_S) (a : Nat) (r : Nat) : Int32 := if r < nR M ∧ M.1 213 r = M.1 213 a then zi r else M.1 213 r
/-- the first n records done -/
def zhk (M : yb_S) (hp : Nat → Int32) (n : Nat) (r : Nat) : Int32 := if r < n then hp r else M.1 213 r
theorem zhk_0 {M : yb_S} {hp : Nat → Int32} : zhk M hp 0 = M.1 213 := funext fun r => if_neg (Nat.not_lt_zero _)
theorem zhk_n {M : yb_S} {hp : Nat → Int32} (h : ∀ r, nR M ≤ r → hp r = M.1 213 r) : zhk M hp (nR M) = hp := funext fun r => by
  unfold zhk
  by_cases e : r < nR M
  · rw [if_pos e]
  · rw [if_neg e, h r (by omega)]
theorem zhk_s {M : yb_S} {hp : Nat → Int32} {n : Nat} : (fun i => if i = n then hp n else zhk M hp n i) = zhk M hp (n + 1) := funext fun i => by
  unfold zhk
  by_cases e : i = n
  · rw [if_pos e, e, if_pos (by omega)]
  · rw [if_neg e]
    by_cases e2 : i < n
    · rw [if_pos e2, if_pos (by omega)]
    · rw [if_neg e2, if_neg (by omega)]
theorem zhk_same {M : yb_S} {hp : Nat → Int32} {n : Nat} (h : hp n = M.1 213 n) : zhk M hp n = zhk M hp (n + 1) := by
  rw [← zhk_s]
  funext i
  by_cases e : i = n
  · rw [if_pos e, e]
    unfold zhk
    rw [if_neg (Nat.lt_irrefl _), h]
  · rw [if_neg e]
theorem zm_joinL {M o s : yb_S} (hW : zW M) (hQ : zQ M o s) {a b : Nat} (ha : a < nR M) (hb : b < nR M) (hab : M.1 213 a ≠ M.1 213 b) : zs_P (l_X12_join_136 (zi a) (M.1 213 b) yb_N (zi 0) s) (fun q => q.1 = zsum (fun r => cond (zhj M a b r == M.1 213 a) 1 0) (nR M) ∧ zQ (zHp M (zhj M a b)) o q.2) := by
  have hR8 := zw_R8 hW
  have hja : zhj M a b a = M.1 213 a := if_neg (fun q => hab q.2)
  unfold l_X12_join_136
  refine zs_up (fun k q => q.1 = zi k ∧ zP q.2 = zHp M (zhk M (zhj M a b) k) ∧ zHo q.2 = o) (nR M) ?_ yb_N 0 _ (Nat.zero_le _) (by unfold yb_N; omega) ⟨rfl, by rw [zhk_0, zHp_id]; exact hQ.1, hQ.2.1⟩
  rintro k ⟨x, u⟩ rc hk ⟨i1, i2, i3⟩ hn
  dsimp only at i1 i2 i3
  subst i1
  show zs_P (f_X12_join_136 (fun x4 s => rc (x4, s)) (zi a) (M.1 213 b) (zi k) u) _
  unfold f_X12_join_136 j_X12_join_169
  have e36 : u.1 176 36 = zi (nR M) := by
    rw [zrPk i2 (by omega), zHp_c (by decide), zw_R hW]
  have e213 : ∀ r, u.1 213 r = zhk M (zhj M a b) k r := fun r => by rw [zrP i2 (by omega), zHp_1]
  have ea : zhk M (zhj M a b) k a = M.1 213 a := by
    unfold zhk
    split
    · exact hja
    · rfl
  rw [e36]
  rcases Nat.lt_or_ge k (nR M) with hlt | hge
  · rw [if_neg (by rw [zi_le (by omega) (by omega)]; omega)]
    simp (disch := omega) only [zi_rd, zi_wr, Option.bind_some, e213, zi_succ]
    rw [ea, show zhk M (zhj M a b) k k = M.1 213 k from if_neg (Nat.lt_irrefl _)]
    by_cases e : M.1 213 k = M.1 213 b
    · rw [if_pos e]
      refine hn hlt _ ⟨rfl, ?_, (zHo_pI (by omega)).trans i3⟩
      rw [zP_e (by omega), i2, zHp_w, ← zhk_s, show zhj M a b k = M.1 213 a from if_pos ⟨hlt, e⟩]
    · rw [if_neg e]
      exact hn hlt _ ⟨rfl, by rw [i2, zhk_same (if_neg (fun q => e q.2))], i3⟩
  · have hkl := Nat.le_antisymm hk hge
    subst hkl
    have i2 : zP u = zHp M (zhj M a b) := by
      have hb' : ∀ r, nR M ≤ r → zhj M a b r = M.1 213 r := fun r hr => if_neg (fun q => absurd q.1 (by omega))
      rw [i2, zhk_n hb']
    have e36' : nR (zHp M (zhj M a b)) = nR M := zHp_N.2.1
    have hP13 : zP (yb_pI u 176 42 0) = zHp M (zhj M a b) := (zP_k0 (by omega)).trans i2
    rw [if_pos (Int32.le_refl _), Option.bind_some, zi_rd (by omega) (by omega), Option.bind_some, zrP hP13 (by omega), zHp_1, hja, zm_heapSize hP13 (by rw [zHp_c (by decide), zw_R hW, e36']) (by rw [e36']; exact hR8), Option.bind_some, e36', zHp_1]
    exact zs_ret ⟨rfl, zQ_st hP13 ((zHo_pI (by omega)).trans i3) rfl⟩
