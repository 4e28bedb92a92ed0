/-! a day ends: the reference -/
/-- L is P, but for the day that ends -/
def zNr (P L : yb_S) : Prop := (∀ id, id < 367 → L.1 id = P.1 id) ∧ (∀ id, 391 ≤ id → L.1 id = P.1 id) ∧ (∀ id d, d < nD P → L.1 id d = P.1 id d) ∧ (∀ d k, d < nD P → L.2 (392 + d) k = P.2 (392 + d) k) ∧ ∀ t, nT P ≤ t → L.2 181 t = P.2 181 t
theorem zNr_i {P L : yb_S} (h : zNr P L) {id : Nat} {x : Int32} (h1 : 367 ≤ id) (h2 : id < 391) : zNr P (yb_pI L id (nD P) x) :=
  ⟨fun a ha => by rw [zu_nef (by omega)]; exact h.1 a ha, fun a ha => by rw [zu_nef (by omega)]; exact h.2.1 a ha, fun a d hd => by rw [zu_col (by omega)]; exact h.2.2.1 a d hd, fun d k hd => h.2.2.2.1 d k hd, fun t ht => h.2.2.2.2 t ht⟩
theorem zNr_L {P L : yb_S} (h : zNr P L) {k : Nat} {x : Int64} : zNr P (yb_pL L (392 + 1 * nD P) k x) :=
  ⟨fun a ha => h.1 a ha, fun a ha => h.2.1 a ha, fun a d hd => h.2.2.1 a d hd, fun d k hd => by rw [zu_neL (by omega)]; exact h.2.2.2.1 d k hd, fun t ht => by rw [zu_neL (by omega)]; exact h.2.2.2.2 t ht⟩
theorem zNr_t {P L : yb_S} (h : zNr P L) {k : Nat} {x : Int64} (hk : k < nT P) : zNr P (yb_pL L 181 k x) :=
  ⟨fun a ha => h.1 a ha, fun a ha => h.2.1 a ha, fun a d hd => h.2.2.1 a d hd, fun d k hd => by rw [zu_neL (by omega)]; exact h.2.2.2.1 d k hd, fun t ht => by rw [zu_idL, if_neg (by omega)]; exact h.2.2.2.2 t ht⟩
theorem zNr_W {P L : yb_S} (hW : zW P) (h : zNr P L) : zW L := by
  have h9 := zw_D8 hW
  have h8 := zw_F8 hW
  obtain ⟨w1, w2, w3, w4, w5, w6, w7, w8, w9, w10, w11, w12, w13, w14⟩ := hW
  obtain ⟨g1, g2, g3, g4, g5⟩ := h
  obtain ⟨n1, n2, n3, n4, n5, n6⟩ := zN_c (N := L) (M := P) g1
  refine ⟨?_, ?_, ?_, ?_, ?_, ?_, ?_, ?_, ?_, ?_, ?_, ?_, ?_, ?_⟩
  · unfold zW1
    rw [n1, n2, n3, n4, n5, g1 176 (by decide)]
    exact w1
  · unfold zW2 nX nS nB nG
    rw [n6, g1 176 (by decide)]
    exact w2
  · unfold zWt
    rw [n5, g1 177 (by decide)]
    exact w3
  · unfold zWh
    rw [n2, n5, g1 183 (by decide), g1 186 (by decide)]
    exact w4
  · unfold zWf
    rw [n1, n2, n5, n6, g1 189 (by decide), g1 194 (by decide), g1 195 (by decide), g1 196 (by decide), g1 198 (by decide), g1 199 (by decide)]
    exact w5
  · unfold zWn
    rw [n1, n5, g1 197 (by decide), g1 182 (by decide)]
    exact ⟨w6.1, fun t ht => ⟨(w6.2.1 t ht).1, (g5 t ht).trans (w6.2.1 t ht).2⟩, w6.2.2⟩
  · unfold zWu
    rw [n1, g1 195 (by decide), g1 196 (by decide)]
    exact w7
  · intro c hc
    rw [g1 _ (by omega)]
    exact w8 c hc
  · unfold zWr
    rw [n1, n3, n4, g1 209 (by decide), g1 212 (by decide), g1 213 (by decide), g1 214 (by decide), g1 216 (by decide)]
    exact w9
  · unfold zWx nX
    rw [g1 176 (by decide), g1 242 (by decide)]
    exact w10
  · have q := w11
    unfold zWs nS at q ⊢
    rw [g1 176 (by decide), g1 334 (by decide)]
    refine ⟨q.1, fun j hj => ⟨(q.2 j hj).1, fun c hc => ?_⟩⟩
    have h1 := Nat.mod_lt j (show 0 < 10 by decide)
    have h2 := Nat.mod_lt c (show 0 < 6 by decide)
    rw [g1 _ (by omega), g1 _ (by omega)]
    exact (q.2 j hj).2 c hc
  · intro d hd
    rw [n6] at hd
    have q := w12 d hd
    have e1 : ∀ k, zDayH L d k = zDayH P d k := fun k => by
      unfold zDayH
      rw [n1]
      refine zsum_congr fun f hf => ?_
      rw [g1 198 (by decide), g1 189 (by decide), g3 _ d hd]
    rw [show 392 + d % 200 = 392 + d by omega] at q ⊢
    refine ⟨fun k hk => ?_, ?_, fun f hf hf2 => ?_⟩
    · rw [g4 d k hd, e1]
      exact q.1 k hk
    · rw [g4 d 4 hd]
      exact q.2.1
    · rw [n1] at hf
      rw [g1 198 (by decide)] at hf2
      rw [g3 _ d hd]
      exact q.2.2 f hf hf2
  · unfold zWp
    rw [g1 176 (by decide)]
    exact w13
  · unfold zWg nB nG
    rw [g1 176 (by decide), g2 598 (by decide), g2 601 (by decide)]
    exact w14
theorem zLp_n {P : yb_S} (h9 : nD P < 200) {k : Nat} (hk : k ≤ 24) : zNr P (zLp P k) := by
  refine ⟨fun id h => zKp_c h, fun id h => ?_, fun id d hd => ?_, fun d t hd => ?_, fun t ht => ?_⟩
  · funext d
    exact if_neg (by omega)
  · exact if_neg (by omega)
  · show (if 392 + d = 392 + 1 * nD P then _ else if 392 + d = 181 ∧ t < nT P then _ else P.2 (392 + d) t) = _
    rw [if_neg (by omega), if_neg (by omega)]
  · show (if 181 = 392 + 1 * nD P then _ else if 181 = 181 ∧ t < nT P then _ else P.2 181 t) = _
    rw [if_neg (by omega), if_neg (by omega)]
def zZe (P : yb_S) (k : Nat) : yb_S := (P.1, fun id t => if id = 392 + 1 * nD P ∧ t < k then 0 else P.2 id t)
theorem zZe_0 {P : yb_S} : zZe P 0 = P := by
  apply Prod.ext
  · rfl
  · funext id t
    exact if_neg (fun q => absurd q.2 (Nat.not_lt_zero _))
theorem zZe_s {P : yb_S} {k : Nat} : yb_pL (zZe P k) (392 + 1 * nD P) k 0 = zZe P (k + 1) := by
  apply Prod.ext
  · rfl
  · funext id t
    rw [zu_rlL]
    show _ = (if id = 392 + 1 * nD P ∧ t < k + 1 then (0 : Int64) else P.2 id t)
    have e0 : (zZe P k).2 id t = (if id = 392 + 1 * nD P ∧ t < k then (0 : Int64) else P.2 id t) := rfl
    rw [e0]
    by_cases e : id = 392 + 1 * nD P
    · rw [if_pos e]
      by_cases e2 : t = k
      · rw [if_pos e2, if_pos ⟨e, by omega⟩]
      · rw [if_neg e2]
        by_cases e3 : t < k
        · rw [if_pos ⟨e, e3⟩, if_pos ⟨e, by omega⟩]
        · rw [if_neg (fun q => e3 q.2), if_neg (fun q => e3 (by omega))]
    · rw [if_neg e, if_neg (fun q => e q.1), if_neg (fun q => e q.1)]
theorem zZe_5 {P : yb_S} : zZe P 5 = zLp P 0 := by
  apply Prod.ext
  · show P.1 = (zKp P 0).1
    rw [zKp_0]
  · funext id t
    show (if id = 392 + 1 * nD P ∧ t < 5 then (0 : Int64) else P.2 id t) = (if id = 392 + 1 * nD P then (if t = 4 then (zGa P 0).toInt64 else if t < 4 then (zHd P t 0).toInt64 else P.2 id t) else if id = 181 ∧ t < nT P then P.2 181 t + (zGt P t 0).toInt64 else P.2 id t)
    have e1 : (zGa P 0).toInt64 = 0 := rfl
    have e2 : (zHd P t 0).toInt64 = 0 := rfl
    have e3 : (zGt P t 0).toInt64 = 0 := rfl
    rw [e1, e2, e3]
    by_cases e : id = 392 + 1 * nD P
    · rw [if_pos e]
      by_cases t4 : t = 4
      · rw [if_pos t4, if_pos ⟨e, by omega⟩]
      · rw [if_neg t4]
        by_cases t3 : t < 4
        · rw [if_pos t3, if_pos ⟨e, by omega⟩]
        · rw [if_neg t3, if_neg (by omega)]
    · rw [if_neg e, if_neg (fun q => e q.1)]
      by_cases e4 : id = 181 ∧ t < nT P
      · rw [if_pos e4, Int64.add_zero, e4.1]
      · rw [if_neg e4]
theorem zm_zero {P o s : yb_S} (hW : zW P) (hQ : zQ P o s) (h9 : nD P < 200) {Q : yb_S → Prop} (K : ∀ u, zQ (zLp P 0) o u → zs_P (l_X12_day_110 yb_N 0 u) Q) : zs_P (l_X12_day_85 yb_N 0 s) Q := by
  unfold l_X12_day_85
  refine zs_up (fun k a => a.1 = zi k ∧ zQ (zZe P k) o a.2) 5 ?_ yb_N 0 _ (Nat.zero_le _) (by decide) (by
    rw [zZe_0]
    exact ⟨rfl, hQ⟩)
  rintro k ⟨x, u⟩ rc hk ⟨i1, i2⟩ hn
  dsimp only at i1 i2
  subst i1
  show zs_P (f_X12_day_85 (fun x1 s => rc (x1, s)) (zi k) u) _
  unfold f_X12_day_85
  rcases Nat.lt_or_ge k 5 with hlt | hge
  · have e7 : (zZe P k).1 176 7 = zi (nD P) := (show P.1 176 7 = _ from zw_D hW)
    rw [show (5 : Int32) = zi 5 from rfl, if_neg (by rw [zi_le (by omega) (by omega)]; omega), zqk i2 (by omega), e7, zi_ri (by omega) (by omega), Option.bind_some, zi_wl (by omega) (by omega), Option.bind_some, zi_succ]
    refine hn hlt _ ⟨rfl, ?_⟩
    rw [← zZe_s]
    exact zQ_eL i2 (by omega)
  · have hkl := Nat.le_antisymm hk hge
    subst hkl
    rw [if_pos (by decide)]
    refine K u ?_
    rw [← zZe_5]
    exact i2
/-- the step of one family, not housed and housed -/
theorem zLp_s {P : yb_S} (hW : zW P) (h9 : nD P < 200) {k q : Nat} (hk : k < nF P) (hq : q < 3) (e : P.1 195 k = zi q) {a b : Int64} (ha : a = (zLp P k).2 (392 + 1 * nD P) q + (P.1 189 k).toInt64) (hb : b = (zLp P k).2 (392 + 1 * nD P) 3 + (P.1 189 k).toInt64) (h1 : q ≠ 1) : yb_pL (yb_pL (yb_pI (zLp P k) (367 + 1 * k) (nD P) (zCd P k)) (392 + 1 * nD P) q a) (392 + 1 * nD P) 3 b = zLp P (k + 1) := by
  have hk24 := zw_F8 hW
  have hne : P.1 195 k ≠ 1 := by
    rw [e, show (1 : Int32) = zi 1 from rfl, Ne, zi_inj (by omega) (by omega)]
    exact h1
  have hT := zTown_0 (M := P) (f := k) hne
  apply Prod.ext
  · have e1 := congrArg Prod.fst (zKp_s (M := P) (k := k))
    exact e1
  · funext id t
    have e0 : ∀ id t k, (zLp P k).2 id t = (if id = 392 + 1 * nD P then (if t = 4 then (zGa P k).toInt64 else if t < 4 then (zHd P t k).toInt64 else P.2 id t) else if id = 181 ∧ t < nT P then P.2 181 t + (zGt P t k).toInt64 else P.2 id t) := fun _ _ _ => rfl
    rw [e0 id t (k + 1)]
    by_cases c : id = 392 + 1 * nD P
    · subst c
      rw [if_pos rfl, zu_idL, zu_idL, zu_rl]
      rw [e0, if_pos rfl, if_neg (by omega), if_pos (by omega)] at ha hb
      by_cases t4 : t = 4
      · subst t4
        rw [if_neg (by decide), if_neg (by omega), if_pos rfl, zGa_s hW hk, if_neg hne, e0, if_pos rfl, if_pos rfl]
      · rw [if_neg t4]
        by_cases t3 : t = 3
        · subst t3
          rw [if_pos rfl, if_pos (by decide), zHd_s hW hk (by decide) hq e, if_pos (Or.inl rfl)]
          exact hb
        · rw [if_neg t3]
          by_cases tl : t < 4
          · rw [if_pos tl, zHd_s hW hk tl hq e]
            by_cases tq : t = q
            · subst tq
              rw [if_pos rfl, if_pos (Or.inr rfl)]
              exact ha
            · rw [if_neg tq, if_neg (by omega), e0, if_pos rfl, if_neg t4, if_pos tl]
          · rw [if_neg (by omega), if_neg tl, e0, if_pos rfl, if_neg t4, if_neg tl]
    · rw [zu_neL c, zu_neL c, if_neg c, zu_rl, e0, if_neg c]
      by_cases e4 : id = 181 ∧ t < nT P
      · have h10 := zw_T8 hW
        rw [if_pos e4, if_pos e4, zGt_s hW hk, hT, if_neg (by
          rw [show (-1 : Int32) = zm from rfl]
          intro q
          exact absurd q.symm (by rw [zi_eqm (by omega)]; exact fun h => h))]
      · rw [if_neg e4, if_neg e4]
theorem zLp_h {P : yb_S} (hW : zW P) (h9 : nD P < 200) {k w : Nat} (hk : k < nF P) (e : P.1 195 k = zi 1) (hw : w < nT P) (ew : zTown P k = zi w) {a b c g : Int64} (ha : a = (zLp P k).2 (392 + 1 * nD P) 1 + (P.1 189 k).toInt64) (hb : b = (zLp P k).2 (392 + 1 * nD P) 3 + (P.1 189 k).toInt64) (hc : c = (zLp P k).2 181 w + (zNg P k).toInt64) (hg : g = (zLp P k).2 (392 + 1 * nD P) 4 + (zNg P k).toInt64) : yb_pL (yb_pL (yb_pL (yb_pL (yb_pI (zLp P k) (367 + 1 * k) (nD P) (zCd P k)) (392 + 1 * nD P) 1 a) (392 + 1 * nD P) 3 b) 181 w c) (392 + 1 * nD P) 4 g = zLp P (k + 1) := by
  have hk24 := zw_F8 hW
  have h10 := zw_T8 hW
  apply Prod.ext
  · have e1 := congrArg Prod.fst (zKp_s (M := P) (k := k))
    exact e1
  · funext id t
    have e0 : ∀ id t k, (zLp P k).2 id t = (if id = 392 + 1 * nD P then (if t = 4 then (zGa P k).toInt64 else if t < 4 then (zHd P t k).toInt64 else P.2 id t) else if id = 181 ∧ t < nT P then P.2 181 t + (zGt P t k).toInt64 else P.2 id t) := fun _ _ _ => rfl
    rw [e0 id t (k + 1)]
    rw [e0, if_pos rfl, if_neg (by omega), if_pos (by omega)] at ha hb
    rw [e0, if_pos rfl, if_pos rfl] at hg
    rw [e0, if_neg (by omega), if_pos ⟨rfl, hw⟩] at hc
    by_cases c5 : id = 392 + 1 * nD P
    · subst c5
      rw [if_pos rfl, zu_idL, zu_neL (by omega), zu_idL, zu_idL, zu_rl]
      by_cases t4 : t = 4
      · subst t4
        rw [if_pos rfl, if_pos rfl, zGa_s hW hk, if_pos (show P.1 195 k = 1 from e)]
        exact hg
      · rw [if_neg t4, if_neg t4]
        by_cases t3 : t = 3
        · subst t3
          rw [if_pos rfl, if_pos (by decide), zHd_s hW hk (by decide) (by decide) e, if_pos (Or.inl rfl)]
          exact hb
        · rw [if_neg t3]
          by_cases tl : t < 4
          · rw [if_pos tl, zHd_s hW hk tl (by decide) e]
            by_cases tq : t = 1
            · subst tq
              rw [if_pos rfl, if_pos (Or.inr rfl)]
              exact ha
            · rw [if_neg tq, if_neg (by omega), e0, if_pos rfl, if_neg t4, if_pos tl]
          · rw [if_neg (by omega), if_neg tl, e0, if_pos rfl, if_neg t4, if_neg tl]
    · rw [zu_neL c5, if_neg c5]
      by_cases e4 : id = 181
      · subst e4
        rw [zu_idL, zu_neL (by omega), zu_neL (by omega), zu_rl, e0, if_neg c5]
        by_cases tw : t = w
        · subst tw
          rw [if_pos rfl, if_pos ⟨rfl, hw⟩, zGt_s hW hk, if_pos ew]
          exact hc
        · rw [if_neg tw]
          by_cases tt : t < nT P
          · rw [if_pos ⟨rfl, tt⟩, if_pos ⟨rfl, tt⟩, zGt_s hW hk, ew, if_neg (show ¬ zi w = zi t from fun q => tw (by rw [zi_inj (by omega) (by omega)] at q; exact q.symm))]
          · rw [if_neg (fun q => tt q.2), if_neg (fun q => tt q.2)]
      · rw [zu_neL e4, zu_neL c5, zu_neL c5, zu_rl, e0, if_neg c5, if_neg (fun q => e4 q.1), if_neg (fun q => e4 q.1)]
