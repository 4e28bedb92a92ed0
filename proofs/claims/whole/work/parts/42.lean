/-! record and seek -/
theorem zany_congr {p q : Nat → Bool} : ∀ {n : Nat}, (∀ k, k < n → p k = q k) → zany p n = zany q n
  | 0, _ => rfl
  | n + 1, h => by
    show (zany p n || p n) = (zany q n || q n)
    rw [zany_congr (n := n) (fun k hk => h k (by omega)), h n (by omega)]
theorem zany_s {p : Nat → Bool} {n : Nat} : zany p (n + 1) = (zany p n || p n) := rfl
theorem zany_or {p q : Nat → Bool} : ∀ {n : Nat}, zany (fun k => p k || q k) n = (zany p n || zany q n)
  | 0 => rfl
  | n + 1 => by
    rw [zany_s, zany_s, zany_s, zany_or (n := n)]
    cases zany p n <;> cases zany q n <;> cases p n <;> cases q n <;> rfl
theorem zHit_c {M M' : yb_S} {f q r k : Nat} (h1 : M'.1 214 k = M.1 214 k) (h2 : zPt M' k r = zPt M k r) (h3 : zOf M' r q = zOf M r q) : zHit M' f q r k = zHit M f q r k := by
  cases e : zHit M f q r k
  · cases e2 : zHit M' f q r k
    · rfl
    · have := zHit_t.mp e2
      rw [h1, h2, h3] at this
      rw [zHit_t.mpr this] at e
      cases e
  · have := zHit_t.mp e
    exact zHit_t.mpr (by rw [h1, h2, h3]; exact this)
/-- the reference after its table has become stale -/
theorem zQ_st {M' o t : yb_S} (h1 : zP t = M') (h2 : zHo t = o) (h3 : t.1 176 42 = 0) : zQ M' o t := ⟨h1, h2, Or.inl h3⟩
def zM7 (M : yb_S) (x y b u v w : Int32) : yb_S := yb_pI (yb_pI (yb_pI (yb_pI (yb_pI (yb_pI (yb_pI (yb_pI M 207 (nR M) x) 208 (nR M) y) 209 (nR M) b) 210 (nR M) u) 211 (nR M) v) 212 (nR M) w) 213 (nR M) (zi (nR M))) 176 36 (zi (nR M + 1))
theorem zFinds_new {M M' : yb_S} (hW : zW M) (m36 : nR M' = nR M + 1) (m40 : nK M' = nK M) (m : ∀ id k, 214 ≤ id → id < 217 → M'.1 id k = M.1 id k) (mr : ∀ id r, 207 ≤ id → id < 214 → r < nR M → M'.1 id r = M.1 id r) (mh : M'.1 213 (nR M) = zi (nR M)) (f q : Nat) : zFinds M' f q = (zFinds M f q || zany (fun k => zHit M' f q (nR M) k) (nK M')) := by
  have hR8 := zw_R8 hW
  have e1 : zFinds M' f q = zany (fun r => zany (fun k => zHit M' f q r k) (nK M')) (nR M + 1) := by
    rw [zFinds_a, m36]
  have e2 : zany (fun r => zany (fun k => zHit M' f q r k) (nK M')) (nR M) = zFinds M f q := by
    rw [zFinds_a, m40]
    refine zany_congr fun r hr => zany_congr fun k hk => ?_
    refine zHit_c (m 214 k (by omega) (by omega)) ?_ ?_
    · unfold zPt
      rw [m 215 k (by omega) (by omega), m 216 k (by omega) (by omega), mr 208 r (by omega) (by omega) hr, mr 209 r (by omega) (by omega) hr]
    · obtain ⟨p, hp, ep⟩ := (zw_r hW hr).2.2
      rw [zOf_a, zOf_a, m36, zany_s, mr 213 r (by omega) (by omega) hr, mh, ep, show (zi (nR M) == zi p) = false from zm_eqF (by omega) (by omega) (by omega), Bool.and_false, Bool.or_false]
      exact zany_congr fun z hz => by rw [mr 212 z (by omega) (by omega) hz, mr 213 z (by omega) (by omega) hz]
  rw [e1, zany_s, e2]
theorem zM7_c {M : yb_S} {x y b u v w : Int32} : (∀ id k, 214 ≤ id → id < 217 → (zM7 M x y b u v w).1 id k = M.1 id k) ∧ (∀ id r, 207 ≤ id → id < 214 → r < nR M → (zM7 M x y b u v w).1 id r = M.1 id r) ∧ (zM7 M x y b u v w).1 213 (nR M) = zi (nR M) := by
  unfold zM7
  refine ⟨fun id k h1 h2 => ?_, fun id r h1 h2 h3 => ?_, ?_⟩
  · simp (disch := omega) only [zu_ne]
  · have hr : r ≠ nR M := by omega
    have key : ∀ (S : yb_S) (i : Nat) (z : Int32), (yb_pI S i (nR M) z).1 id r = S.1 id r := fun S i z => by
      rw [zu_rd]
      by_cases e : id = i
      · rw [if_pos e, if_neg hr]
      · rw [if_neg e]
    rw [zu_ne (by omega), key, key, key, key, key, key, key]
  · simp (disch := omega) only [zu_ne, zu_eq]
theorem zo_sought {a b : Int32} {s : yb_S} : f_X11_canBeSought a b s = some (if 0 ≤ a ∧ a ≤ 999999 ∧ 0 ≤ b ∧ b ≤ 120 then 1 else 0) := by
  unfold f_X11_canBeSought
  have e : ∀ x y : Int32, (x < y) = ¬ (y ≤ x) := fun x y => propext Int32.not_le.symm
  simp only [e]
  by_cases h1 : 0 ≤ a <;> by_cases h2 : a ≤ 999999 <;> by_cases h3 : 0 ≤ b <;> by_cases h4 : b ≤ 120 <;> simp [h1, h2, h3, h4]
theorem zi_in {x : Int32} {n : Nat} (h0 : 0 ≤ x) (h1 : x ≤ zi n) (hn : n < 2147483648) : ∃ k, k ≤ n ∧ x = zi k := by
  rcases zi_cases x with h | ⟨k, hk, rfl⟩
  · exact absurd h0 (Int32.not_le.mpr h)
  · rw [zi_le hk hn] at h1
    exact ⟨k, h1, rfl⟩
theorem zo_add {M m s : yb_S} (hW : zW M) (hA : zA M m s) {x y w : Int32} {b v : Nat} (h60 : nR M < 60) (hb : b ≤ 120) (hv : v < 2147483648) (hw : w = -1 ∨ ∃ f, f < nF M ∧ w = zi f) : zs_P (f_X7_add x y (zi b) (zi v) w s) (fun a => a.1 = zi (nR M) ∧ zA (zM7 M x y (zi b) (zi (v / 1000)) (zi (v % 1000)) w) m a.2) := by
  have hk := zk_record (o := zO s) (M := M) (n := nR M) (b := b) (x := x) (y := y) (u := zi (v / 1000)) (v := zi (v % 1000)) (w := w) rfl h60 hb hw hW hA.1
  have hM : yb_pI (yb_pI (yb_pI (yb_pI (yb_pI (yb_pI (yb_pI (yb_pI M 207 (nR M) x) 208 (nR M) y) 209 (nR M) (zi b)) 210 (nR M) (zi (v / 1000))) 211 (nR M) (zi (v % 1000))) 212 (nR M) w) 213 (nR M) (zi (nR M))) 176 36 (zi (nR M + 1)) = zM7 M x y (zi b) (zi (v / 1000)) (zi (v % 1000)) w := rfl
  rw [hM] at hk
  have e27 : nF (zM7 M x y (zi b) (zi (v / 1000)) (zi (v % 1000)) w) = nF M := by
    unfold nF zM7
    simp (disch := omega) only [zu_ne, zu_id, ↓reduceIte, Nat.reduceEqDiff]
  have e36 : nR (zM7 M x y (zi b) (zi (v / 1000)) (zi (v % 1000)) w) = nR M + 1 := by
    show (((zM7 M x y (zi b) (zi (v / 1000)) (zi (v % 1000)) w).1 176 36).toNatClampNeg) = _
    unfold zM7
    rw [zu_eq, zi_tn (by omega)]
  have e40 : nK (zM7 M x y (zi b) (zi (v / 1000)) (zi (v % 1000)) w) = nK M := by
    unfold nK zM7
    simp (disch := omega) only [zu_ne, zu_id, ↓reduceIte, Nat.reduceEqDiff]
  have hF := zFinds_new hW e36 e40 zM7_c.1 zM7_c.2.1 zM7_c.2.2
  unfold f_X7_add
  rw [cq_R hA, zw_R hW, show (60 : Int32) = zi 60 from rfl, if_pos (by rw [zi_lt (by omega) (by omega)]; exact h60)]
  simp (disch := omega) only [cq_R hA, zw_R hW, ↓zmd, zl, zi_div, zi_rem, zi_lt, zi_le, zi_inj, zi_add, zi_sub, zi_addm, zi_eqm, zi_meq, zi_mlt, zi_ltm, zi_lem, zi_mle, zi_tn, zi_rd, zi_wr, zi_rl, zi_wl, zi_ri, zu_ne, zu_nef, zu_eq, zu_id, zu_rl, zu_rdL, zu_neL, zu_idL, Option.bind_some, ↓reduceIte, Nat.reduceEqDiff, if_pos, if_neg]
  generalize hs9 : yb_pI (yb_pI (yb_pI (yb_pI (yb_pI (yb_pI (yb_pI (yb_pI s 42 (nR M) x) 43 (nR M) y) 44 (nR M) (zi b)) 45 (nR M) (zi (v / 1000))) 46 (nR M) (zi (v % 1000))) 47 (nR M) w) 48 (nR M) (zi (nR M))) 41 0 (zi (nR M + 1)) = s9
  have hz : zO s9 = yb_pI (yb_pI (yb_pI (yb_pI (yb_pI (yb_pI (yb_pI (yb_pI (zO s) 42 (nR M) x) 43 (nR M) y) 44 (nR M) (zi b)) 45 (nR M) (zi (v / 1000))) 46 (nR M) (zi (v % 1000))) 47 (nR M) w) 48 (nR M) (zi (nR M))) 41 0 (zi (nR M + 1)) := by
    rw [← hs9]
    simp (disch := omega) only [zP_e, zP_s, zP_k, zP_k0, zP_Ls, zP_Le, zO_e, zO_s, zO_92, zO_92s, zO_100, zO_100s, zO_Ls, zO_Le]
  have hm9 : zHm s9 = m := by
    rw [← hs9]
    simp (disch := omega) only [zHm_pI]
    exact hA.2
  rw [← hz] at hk
  have hK9 : zKt (zFinds M) (nF (zM7 M x y (zi b) (zi (v / 1000)) (zi (v % 1000)) w)) s9 := by
    rw [e27, ← hs9]
    intro f hf
    simp (disch := omega) only [zu_ne]
    exact zKt_of hA f hf
  have hr9 : zRr s9 (zM7 M x y (zi b) (zi (v / 1000)) (zi (v % 1000)) w) := hk.2.2.2.2.2.2.1
  have hc41 : s9.1 41 0 = zi (nR M + 1) := hr9.1.trans ((zw_R hk.1).trans (by rw [e36]))
  rw [show nR M + 1 - 1 = nR M by omega]
  refine zs_bind (zo_note hk.1 hr9 hK9 (r := nR M) (by rw [e36]; omega)) fun u hu => ?_
  have hc42 : u.1 41 0 = zi (nR M + 1) := by
    rw [hu.1.1 41 (by decide) (by decide)]
    exact hc41
  rw [hc42]
  refine zs_ret ⟨by show zi (nR M + 1) - _ = _; exact zi_gt, ?_, (zHm_k hu.1).trans hm9⟩
  refine zR_of (zR0_k hu.1 hk.2) (zKt_O ?_)
  intro f hf
  simp only [hF]
  exact hu.2 f hf
theorem ze_7 : ∀ (a1 a2 a3 a4 a5 : Int32) (s : yb_S), zInv s → ∃ (r : Int32) (s1 s2 : yb_S), f_X11_record a1 a2 a3 a4 a5 s = some (r, s1) ∧ f_X12_record a1 a2 a3 a4 a5 s1 = some (r, s2) ∧ zInv s2 := by
  intro a1 a2 a3 a4 a5 s h
  have hW := h.1
  have h8 := zw_F8 hW
  have hR8 := zw_R8 hW
  by_cases hc : (0 ≤ a1 ∧ a1 ≤ 2) ∧ (0 ≤ a2 ∧ a2 ≤ 999999) ∧ (∃ b, b ≤ 120 ∧ a3 = zi b) ∧ (∃ v, v < 2147483648 ∧ a4 = zi v ∧ v % 1000 ≤ 200 ∧ v / 1000 ≤ v % 1000) ∧ (a5 = -1 ∨ zin a5 (nF (zP s))) ∧ nR (zP s) < 60
  · obtain ⟨c1, c2, ⟨b, hb, rfl⟩, ⟨v, hv, rfl, hv2⟩, c5, h60⟩ := hc
    have c5' : a5 = -1 ∨ ∃ f, f < nF (zP s) ∧ a5 = zi f := c5
    have hk := zk_record (o := zO s) (M := zP s) (n := nR (zP s)) (b := b) (x := a1) (y := a2) (u := zi (v / 1000)) (v := zi (v % 1000)) (w := a5) rfl h60 hb c5' hW h.2.1
    refine z_call h (zi (nR (zP s))) (zM7 (zP s) a1 a2 (zi b) (zi (v / 1000)) (zi (v % 1000)) a5) (fun m t hA => ?_) (fun o t hQ => ?_) hk.1 ?_
    · have key : zs_P (j_X11_record_50 a1 a2 (zi b) (zi v) a5 t) (fun q => q.1 = zi (nR (zP s)) ∧ zA (zM7 (zP s) a1 a2 (zi b) (zi (v / 1000)) (zi (v % 1000)) a5) m q.2) := by
        unfold j_X11_record_50
        exact zs_bind (zo_add hW hA h60 hb hv c5') fun a ha => zs_ret ha
      unfold f_X11_record
      rw [if_neg (Int32.not_lt.mpr c1.1), if_neg (Int32.not_lt.mpr c1.2), zo_sought, if_pos ⟨c2.1, c2.2, zi_lo (by omega), by rw [show (120 : Int32) = zi 120 from rfl, zi_le (by omega) (by omega)]; exact hb⟩, Option.bind_some, if_neg (by decide), zo_canDays hv, if_pos hv2, Option.bind_some, if_neg (by decide)]
      by_cases e : a5 = -1
      · rw [if_pos e]
        exact key
      · obtain ⟨f, hf, ef⟩ := c5'.resolve_left e
        rw [if_neg e]
        have : f_X2_has a5 t = some 1 := by
          rw [ef]
          exact zo_hFt hW hA hf
        rw [this, Option.bind_some, if_neg (by decide)]
        exact key
    · have key : zs_P (j_X12_record_59 a1 a2 (zi b) (zi v) a5 t) (fun q => q.1 = zi (nR (zP s)) ∧ zQ (zM7 (zP s) a1 a2 (zi b) (zi (v / 1000)) (zi (v % 1000)) a5) o q.2) := by
        unfold j_X12_record_59
        rw [zqk hQ (by omega), zw_R hW, show (60 : Int32) = zi 60 from rfl, if_neg (by rw [zi_inj (by omega) (by omega)]; omega)]
        simp (disch := omega) only [zqk hQ, zw_R hW, ↓zmd, zl, zi_div, zi_rem, zi_lt, zi_le, zi_inj, zi_add, zi_sub, zi_addm, zi_eqm, zi_meq, zi_mlt, zi_ltm, zi_lem, zi_mle, zi_tn, zi_rd, zi_wr, zi_rl, zi_wl, zi_ri, zu_ne, zu_nef, zu_eq, zu_id, zu_rl, zu_rdL, zu_neL, zu_idL, Option.bind_some, ↓reduceIte, Nat.reduceEqDiff, if_pos, if_neg]
        refine zs_ret ⟨rfl, zQ_st ?_ ?_ rfl⟩
        · simp (disch := omega) only [zP_e, zP_s, zP_k, zP_k0, zP_Ls, zP_Le, zO_e, zO_s, zO_92, zO_92s, zO_100, zO_100s, zO_Ls, zO_Le]
          rw [hQ.1]
          rfl
        · simp (disch := omega) only [zHo_pI]
          exact hQ.2.1
      unfold f_X12_record
      rw [z_in (l := 0) (h := 2) (lo := 0) (hi := 2) (by decide) (by decide), if_pos c1, if_neg (by decide), z_in (l := 0) (h := 999999) (lo := 0) (hi := 999999) (by decide) (by decide), if_pos c2, if_neg (by decide), z_inZ (l := 0) (h := 120) (a := 0) (b := 120) (by decide) (by decide) (by omega) (by decide) (by decide), if_pos (by omega), if_neg (by decide), zm_areDays hv, if_pos hv2, Option.bind_some, if_neg (by decide)]
      by_cases e : a5 = -1
      · rw [if_pos e]
        exact key
      · obtain ⟨f, hf, ef⟩ := c5'.resolve_left e
        rw [if_neg e]
        have : f_X12_isFamily a5 t = some 1 := by
          rw [ef]
          exact zm_hFt hW hQ hf
        rw [this, Option.bind_some, if_neg (by decide)]
        exact key
    · show (zM7 (zP s) a1 a2 (zi b) (zi (v / 1000)) (zi (v % 1000)) a5).1 176 58 = -1
      unfold zM7
      simp (disch := omega) only [zu_ne, zu_id, ↓reduceIte, Nat.reduceEqDiff]
      exact z_b58 h
  · have d1 : ∀ x y : Int32, (x < y) = ¬ (y ≤ x) := fun x y => propext Int32.not_le.symm
    refine z_ask h (-1) (fun m t hA => ?_) (fun o t hQ => ?_)
    · unfold f_X11_record
      by_cases c1 : 0 ≤ a1
      · rw [if_neg (Int32.not_lt.mpr c1)]
        by_cases c1b : a1 ≤ 2
        · rw [if_neg (Int32.not_lt.mpr c1b), zo_sought]
          by_cases c2 : 0 ≤ a2 ∧ a2 ≤ 999999 ∧ 0 ≤ a3 ∧ a3 ≤ 120
          · rw [if_pos c2, Option.bind_some, if_neg (by decide)]
            rcases zi_cases a4 with q | ⟨v, hv, rfl⟩
            · have : f_X11_canBeDays a4 t = some 0 := by
                unfold f_X11_canBeDays
                rw [if_pos (show a4 < 0 from q)]
              rw [this]
              exact zs_ret ⟨rfl, hA⟩
            · rw [zo_canDays hv]
              by_cases hv2 : v % 1000 ≤ 200 ∧ v / 1000 ≤ v % 1000
              · rw [if_pos hv2, Option.bind_some, if_neg (by decide)]
                have hno : (a5 = -1 ∨ zin a5 (nF (zP s))) → zs_P (j_X11_record_50 a1 a2 a3 (zi v) a5 t) (fun q => q.1 = -1 ∧ zA (zP s) m q.2) := fun q5 => by
                  have h60 : ¬ nR (zP s) < 60 := fun q6 => hc ⟨⟨c1, c1b⟩, ⟨c2.1, c2.2.1⟩, zi_in c2.2.2.1 (n := 120) c2.2.2.2 (by omega), ⟨v, hv, rfl, hv2⟩, q5, q6⟩
                  unfold j_X11_record_50 f_X7_add
                  rw [cq_R hA, zw_R hW, show (60 : Int32) = zi 60 from rfl, if_neg (by rw [zi_lt (by omega) (by omega)]; exact h60)]
                  exact zs_ret ⟨rfl, hA⟩
                by_cases e : a5 = -1
                · rw [if_pos e]
                  exact hno (Or.inl e)
                · rw [if_neg e]
                  by_cases hf : zin a5 (nF (zP s))
                  · have : f_X2_has a5 t = some 1 := by
                      obtain ⟨f, hf, rfl⟩ := hf
                      exact zo_hFt hW hA hf
                    rw [this, Option.bind_some, if_neg (by decide)]
                    exact hno (Or.inr hf)
                  · rw [zo_hFf hW hA hf]
                    exact zs_ret ⟨rfl, hA⟩
              · rw [if_neg hv2]
                exact zs_ret ⟨rfl, hA⟩
          · rw [if_neg c2]
            exact zs_ret ⟨rfl, hA⟩
        · rw [if_pos (Int32.not_le.mp c1b)]
          exact zs_ret ⟨rfl, hA⟩
      · rw [if_pos (Int32.not_le.mp c1)]
        exact zs_ret ⟨rfl, hA⟩
    · unfold f_X12_record
      rw [z_in (l := 0) (h := 2) (lo := 0) (hi := 2) (by decide) (by decide)]
      by_cases c1 : 0 ≤ a1 ∧ a1 ≤ 2
      · rw [if_pos c1, if_neg (by decide), z_in (l := 0) (h := 999999) (lo := 0) (hi := 999999) (by decide) (by decide)]
        by_cases c2 : 0 ≤ a2 ∧ a2 ≤ 999999
        · rw [if_pos c2, if_neg (by decide), z_in (l := 0) (h := 120) (lo := 0) (hi := 120) (by decide) (by decide)]
          by_cases c3 : 0 ≤ a3 ∧ a3 ≤ 120
          · rw [if_pos c3, if_neg (by decide)]
            rcases zi_cases a4 with q | ⟨v, hv, rfl⟩
            · have : f_X12_areDays a4 t = some 0 := by
                unfold f_X12_areDays
                rw [if_pos (show a4 < 0 from q)]
              rw [this]
              exact zs_ret ⟨rfl, hQ⟩
            · rw [zm_areDays hv]
              by_cases hv2 : v % 1000 ≤ 200 ∧ v / 1000 ≤ v % 1000
              · rw [if_pos hv2, Option.bind_some, if_neg (by decide)]
                have hno : (a5 = -1 ∨ zin a5 (nF (zP s))) → zs_P (j_X12_record_59 a1 a2 a3 (zi v) a5 t) (fun q => q.1 = -1 ∧ zQ (zP s) o q.2) := fun q5 => by
                  have h60 : ¬ nR (zP s) < 60 := fun q6 => hc ⟨c1, c2, zi_in c3.1 (n := 120) c3.2 (by omega), ⟨v, hv, rfl, hv2⟩, q5, q6⟩
                  unfold j_X12_record_59
                  rw [zqk hQ (by omega), zw_R hW, show (60 : Int32) = zi 60 from rfl, if_pos (by rw [zi_inj (by omega) (by omega)]; omega)]
                  exact zs_ret ⟨rfl, hQ⟩
                by_cases e : a5 = -1
                · rw [if_pos e]
                  exact hno (Or.inl e)
                · rw [if_neg e]
                  by_cases hf : zin a5 (nF (zP s))
                  · have : f_X12_isFamily a5 t = some 1 := by
                      obtain ⟨f, hf, rfl⟩ := hf
                      exact zm_hFt hW hQ hf
                    rw [this, Option.bind_some, if_neg (by decide)]
                    exact hno (Or.inr hf)
                  · rw [zm_hFf hW hQ hf]
                    exact zs_ret ⟨rfl, hQ⟩
              · rw [if_neg hv2]
                exact zs_ret ⟨rfl, hQ⟩
          · rw [if_neg c3]
            exact zs_ret ⟨rfl, hQ⟩
        · rw [if_neg c2]
          exact zs_ret ⟨rfl, hQ⟩
      · rw [if_neg c1]
        exact zs_ret ⟨rfl, hQ⟩
