/-! best: out of the homes, the search, and back -/
theorem zEmP_hs {p q : Nat → Bool} {M : yb_S} {f h : Nat} (hf : q f = false) (ho : ∀ k, k ≠ f → q k = p k) (h1 : M.1 195 f = 1) (h2 : M.1 196 f = zi h) : zHs (zEmP p M) f h = zEmP q M := by
  apply Prod.ext
  · funext id k
    by_cases e : k = f
    · subst e
      by_cases e1 : id = 195
      · rw [e1, zHs_1.1, zEmP_0 hf, h1]
      · by_cases e2 : id = 196
        · rw [e2, zHs_1.2, zEmP_0 hf, h2]
        · rw [zHous_c zHs_h e1 e2, zEmP_c e1 e2, zEmP_c e1 e2]
    · rw [zHs_h.1 id k (Or.inr e)]
      cases hp : p k with
      | false => rw [zEmP_0 hp, zEmP_0 ((ho k e).trans hp)]
      | true =>
        have hq := (ho k e).trans hp
        by_cases e1 : id = 195
        · rw [e1, (zEmP_1 hp).1, (zEmP_1 hq).1]
        · by_cases e2 : id = 196
          · rw [e2, (zEmP_1 hp).2, (zEmP_1 hq).2]
          · rw [zEmP_c e1 e2, zEmP_c e1 e2]
  · rfl
theorem zEmP_st {p q : Nat → Bool} {M : yb_S} {f : Nat} (ho : ∀ k, k ≠ f → q k = p k) (h1 : M.1 195 f = 0) (h2 : M.1 196 f = -1) : zEmP p M = zEmP q M := by
  have key : ∀ r : Nat → Bool, ∀ id, (zEmP r M).1 id f = M.1 id f := fun r id => by
    cases hr : r f with
    | false => exact zEmP_0 hr
    | true =>
      by_cases e1 : id = 195
      · rw [e1, (zEmP_1 hr).1, h1]
      · by_cases e2 : id = 196
        · rw [e2, (zEmP_1 hr).2, h2]
        · rw [zEmP_c e1 e2]
  apply Prod.ext
  · funext id k
    by_cases e : k = f
    · rw [e, key, key]
    · show (if p k = true ∧ id = 195 then 0 else if p k = true ∧ id = 196 then -1 else M.1 id k) = (if q k = true ∧ id = 195 then 0 else if q k = true ∧ id = 196 then -1 else M.1 id k)
      rw [ho k e]
  · rfl
section
variable {M m : yb_S} {F H : Nat → Nat} {n nh : Nat}
/-- the first k are out of their homes -/
def zyO (M : yb_S) (F : Nat → Nat) (k : Nat) : yb_S := zEmP (zyc F k) M
/-- all are out, but the first k are back -/
def zyI (M : yb_S) (F : Nat → Nat) (n k : Nat) : yb_S := zEmP (fun q => zyc F n q && !zyc F k q) M
theorem zyO_0 : zyO M F 0 = M := zEmP_z fun _ => rfl
theorem zyI_0 : zyI M F n 0 = zyO M F n := zEmP_e fun q => by
  show (zyc F n q && !false) = zyc F n q
  simp
theorem zyI_n : zyI M F n n = M := zEmP_z fun q => by
  show (zyc F n q && !zyc F n q) = false
  cases zyc F n q <;> rfl
theorem zyc_k {k : Nat} (hF : zyFH M F H n nh) (hk : k < n) : zyc F k (F k) = false := by
  cases h : zyc F k (F k)
  · rfl
  · obtain ⟨j, hj, ej⟩ := zyc_t.mp h
    have := hF.2.2.2.1 j k hj hk
    omega
theorem zyc_s {k q : Nat} (h : q ≠ F k) : zyc F (k + 1) q = zyc F k q := by
  show (zyc F k q || q == F k) = _
  rw [beq_eq_false_iff_ne.mpr h, Bool.or_false]
theorem zyc_1 {k : Nat} : zyc F (k + 1) (F k) = true := zyc_t.mpr ⟨k, Nat.lt_succ_self k, rfl⟩
theorem zyO_s {k : Nat} : zUn (zyO M F k) (F k) = zyO M F (k + 1) := zEmP_un zyc_1 fun _ h => zyc_s h
theorem zyO_k {k : Nat} (hF : zyFH M F H n nh) (hk : k < n) (id : Nat) : (zyO M F k).1 id (F k) = M.1 id (F k) := zEmP_0 (zyc_k hF hk)
theorem zyI_k {k : Nat} (hF : zyFH M F H n nh) (hk : k < n) : (zyI M F n k).1 195 (F k) = 0 ∧ (zyI M F n k).1 196 (F k) = -1 := zEmP_1 (by
  show (zyc F n (F k) && !zyc F k (F k)) = true
  rw [zyc_k hF hk, zyc_t.mpr ⟨k, hk, rfl⟩]
  rfl)
theorem zyI_q {k q : Nat} (h : q ≠ F k) : (zyc F n q && !zyc F (k + 1) q) = (zyc F n q && !zyc F k q) := by rw [zyc_s h]
theorem zyI_f {k : Nat} : (zyc F n (F k) && !zyc F (k + 1) (F k)) = false := by rw [zyc_1, Bool.not_true, Bool.and_false]
theorem zyE_c {p : Nat → Bool} {id : Nat} (h1 : id ≠ 195) (h2 : id ≠ 196) : (zEmP p M).1 id = M.1 id := zEmP_c h1 h2
theorem zyI_hs {k h : Nat} (h1 : M.1 195 (F k) = 1) (h2 : M.1 196 (F k) = zi h) : zHs (zyI M F n k) (F k) h = zyI M F n (k + 1) := zEmP_hs zyI_f (fun _ hq => zyI_q hq) h1 h2
theorem zyI_st {k : Nat} (h1 : M.1 195 (F k) = 0) (h2 : M.1 196 (F k) = -1) : zyI M F n k = zyI M F n (k + 1) := zEmP_st (fun _ hq => zyI_q hq) h1 h2
theorem zyI_fr {k h : Nat} (hW : zW M) (hF : zyFH M F H n nh) (hk : k < n) (h1 : M.1 195 (F k) = 1) (h2 : M.1 196 (F k) = zi h) : zFree (zyI M F n k) h := by
  intro g hg g1 g2
  have eN : nF (zyI M F n k) = nF M := by
    unfold nF
    rw [show (zyI M F n k).1 176 = M.1 176 from zEmP_c (by decide) (by decide)]
  rw [eN] at hg
  have hfk := hF.2.2.1 k hk
  cases hp : (fun q => zyc F n q && !zyc F k q) g with
  | true =>
    have e : (zyI M F n k).1 195 g = 0 := (zEmP_1 hp).1
    rw [e] at g1
    exact absurd g1 (by decide)
  | false =>
    have e1 : (zyI M F n k).1 195 g = M.1 195 g := zEmP_0 hp
    have e2 : (zyI M F n k).1 196 g = M.1 196 g := zEmP_0 hp
    rw [e1] at g1
    rw [e2] at g2
    have := hW.2.2.2.2.2.2.1 g (F k) hg hfk g1 h1 (by rw [g2, h2])
    subst this
    have : (zyc F n (F k) && !zyc F k (F k)) = false := hp
    rw [zyc_k hF hk, zyc_t.mpr ⟨k, hk, rfl⟩] at this
    cases this
theorem zyE_N {p : Nat → Bool} : nF (zEmP p M) = nF M ∧ nH (zEmP p M) = nH M := by
  unfold nF nH
  rw [show (zEmP p M).1 176 = M.1 176 from zEmP_c (by decide) (by decide)]
  exact ⟨rfl, rfl⟩
theorem zyO_P (hF : zyFH M F H n nh) (hW : zW (zyO M F n)) (l : Nat → Int32) : zyPa M F n 0 (zyO M F n) l :=
  ⟨hW, fun id a b => zEmP_c a b, fun k hk => absurd hk (Nat.not_lt_zero _), fun k _ hk => zEmP_1 (zyc_t.mpr ⟨k, hk, rfl⟩)⟩
/-- what all that come can bring: counted from behind -/
theorem zo_countLeft {P u : yb_S} (hWM : zW M) (hF : zyFH M F H n nh) (hn0 : 0 < n) (hWP : zW P) (hP : ∀ id, id ≠ 195 → id ≠ 196 → P.1 id = M.1 id) (hA : zA P m u) (h1 : u.1 128 1 = zi n) (h6 : u.1 128 6 = zbits (zyc F n) (nF M)) (h7 : u.1 128 7 = zi nh) (h130 : ∀ k, k < n → u.1 130 k = zi (F k)) (h131 : ∀ j, j < nh → u.1 131 j = zi (H j)) (h132 : ∀ k, k < n → u.1 132 k = M.1 196 (F k)) : zs_P (f_X1_countLeft u) (fun v => zA P m v ∧ zySt M F H n nh v) := by
  have hn6 := hF.1
  have h8 := zw_F8 hWM
  have eN : nF P = nF M := by
    unfold nF
    rw [hP 176 (by decide) (by decide)]
  unfold f_X1_countLeft
  rw [h1, zi_wr (by omega) (by omega), Option.bind_some]
  have e1 : (yb_pI u 134 n 0).1 128 1 = zi n := by rw [zu_ne (by decide)]; exact h1
  rw [e1, zi_wr (by omega) (by omega), Option.bind_some]
  have e2 : (yb_pI (yb_pI u 134 n 0) 135 n 0).1 128 1 = zi n := by rw [zu_ne (by decide)]; exact e1
  rw [e2, zi_wr (by omega) (by omega), Option.bind_some]
  have e3 : (yb_pI (yb_pI (yb_pI u 134 n 0) 135 n 0) 136 n 0).1 128 1 = zi n := by rw [zu_ne (by decide)]; exact e2
  have e6 : (yb_pI (yb_pI (yb_pI u 134 n 0) 135 n 0) 136 n 0).1 128 6 = zbits (zyc F n) (nF M) := by rw [zu_ne (by decide), zu_ne (by decide), zu_ne (by decide)]; exact h6
  rw [e3, e6, show (1 : Int32) = zi 1 from rfl, zi_sub hn0]
  have a3 := zA_w (zA_w (zA_w hA (id := 134) (k := n) (x := 0) (by omega)) (id := 135) (k := n) (x := 0) (by omega)) (id := 136) (k := n) (x := 0) (by omega)
  have f134 : (yb_pI (yb_pI (yb_pI u 134 n 0) 135 n 0) 136 n 0).1 134 n = 0 := by rw [zu_ne (by decide), zu_ne (by decide), zu_eq]
  have f135 : (yb_pI (yb_pI (yb_pI u 134 n 0) 135 n 0) 136 n 0).1 135 n = 0 := by rw [zu_ne (by decide), zu_eq]
  have f136 : (yb_pI (yb_pI (yb_pI u 134 n 0) 135 n 0) 136 n 0).1 136 n = 0 := zu_eq
  have fr : ∀ id k, id ≠ 134 → id ≠ 135 → id ≠ 136 → (yb_pI (yb_pI (yb_pI u 134 n 0) 135 n 0) 136 n 0).1 id k = u.1 id k := fun id k q1 q2 q3 => by rw [zu_ne q3, zu_ne q2, zu_ne q1]
  generalize yb_pI (yb_pI (yb_pI u 134 n 0) 135 n 0) 136 n 0 = w at *
  unfold l_X1_countLeft_42
  refine zs_up (fun k a => a.1 = zbits (zyc F (n - k)) (nF M) ∧ a.2.1 = (if k < n then zi (n - 1 - k) else -1) ∧ zA P m a.2.2 ∧ (∀ id j, id ≠ 134 → id ≠ 135 → id ≠ 136 → a.2.2.1 id j = u.1 id j) ∧ ∀ j, n - k ≤ j → j ≤ n → a.2.2.1 134 j = zi (zyLh M F (n - j) j) ∧ a.2.2.1 135 j = zi (zyLp M F (n - j) j) ∧ a.2.2.1 136 j = zi (zyLw M F (n - j) j)) n ?_ yb_N 0 _ (Nat.zero_le _) (by unfold yb_N; omega) (by
    refine ⟨rfl, ?_, a3, fr, fun j q1 q2 => ?_⟩
    · rw [if_pos hn0]
      rfl
    · have ej : j = n := by omega
      subst ej
      rw [Nat.sub_self]
      exact ⟨f134, f135, f136⟩)
  rintro k ⟨a1, a2, v⟩ rc hk ⟨i1, i2, i3, i4, i5⟩ hnx
  dsimp only at i1 i2 i3 i4 i5
  subst i1 i2
  show zs_P (f_X1_countLeft_42 (fun x1 x2 s => rc (x1, x2, s)) (zbits (zyc F (n - k)) (nF M)) (if k < n then zi (n - 1 - k) else -1) v) _
  unfold f_X1_countLeft_42
  rcases Nat.lt_or_ge k n with hlt | hge
  · rw [if_pos hlt]
    generalize hi : n - 1 - k = i
    have hin : i < n := by omega
    have hki : n - k = i + 1 := by omega
    have hfi := hF.2.2.1 i hin
    have hi2 : i ≤ n := Nat.le_of_lt hin
    obtain ⟨p1, p2, p3⟩ := i5 (i + 1) (by omega) (by omega)
    rw [show n - (i + 1) = k by omega] at p1 p2 p3
    obtain ⟨qh, hqh, eqh⟩ := (zw_f hWM hfi).1
    have eh : M.1 189 (F i) = zi (zyh M F i) := by
      unfold zyh
      rw [eqh, zi_tn (by omega)]
    have c1 : (yb_pI v 134 i (zi (zyLh M F k (i + 1)) + zi (zyh M F i))).1 135 (i + 1) = zi (zyLp M F k (i + 1)) := by rw [zu_ne (by decide)]; exact p2
    have c2 : (yb_pI v 134 i (zi (zyLh M F k (i + 1)) + zi (zyh M F i))).1 53 (F i) = zbits (fun q => zKin P (F i) q) (nF P) := by rw [zu_ne (by decide)]; exact cq_53 i3 (by omega)
    rw [hki, if_neg (by rw [zi_neg (by omega)]; exact fun q => q), zi_rd (by omega) (by omega), Option.bind_some, i4 130 i (by decide) (by decide) (by decide), h130 i hin, zi_succ, zi_rd (by omega) (by omega), Option.bind_some, p1, zi_rd (by omega) (by omega), Option.bind_some, cq_22 i3 (by rw [eN]; exact hfi), hP 189 (by decide) (by decide), eh, zi_wr (by omega) (by omega), Option.bind_some, zi_rd (by omega) (by omega), Option.bind_some, c1, zi_rd (by omega) (by omega), Option.bind_some, c2]
    have ebit : zbits (zyc F (i + 1)) (nF M) &&& (((1 : Int32) <<< (zi (F i) &&& 31)) ^^^ (-1 : Int32)) = zbits (zyc F i) (nF M) := by
      rw [zbits_inv (by omega) hfi]
      refine zbits_congr fun q hq => ?_
      by_cases e : q = F i
      · rw [e, beq_self_eq_true, zyc_k hF hin, Bool.not_true, Bool.and_false]
      · rw [beq_eq_false_iff_ne.mpr e, zyc_s e, Bool.not_false, Bool.and_true]
    have ecnt : ∀ s, f_J6_bitCount_0f7a4 (zbits (fun q => zKin P (F i) q) (nF P) &&& zbits (zyc F i) (nF M)) s = some (zi (zyP M F i)) := fun s => by
      rw [eN, zbits_and (by omega) (by omega), zo_bits h8]
      have e : zsum (fun k => cond (zKin P (F i) k && (decide (k < nF M) && zyc F i k)) (1 : Int32) 0) (nF M) = zsum (fun q => cond (zKin M (F i) q && zyc F i q) 1 0) (nF M) := zsum_congr fun q hq => by rw [decide_eq_true hq, Bool.true_and, zKin_P hP]
      rw [e, zyc_sum (n := n) (fun k hk => hF.2.2.1 k hk) hF.2.2.2.1 hi2]
      rfl
    rw [ebit, ecnt, Option.bind_some, zi_wr (by omega) (by omega), Option.bind_some]
    have x1 := zA_w (zA_w i3 (id := 134) (k := i) (x := zi (zyLh M F k (i + 1)) + zi (zyh M F i)) (by omega)) (id := 135) (k := i) (x := zi (zyLp M F k (i + 1)) + zi (zyP M F i)) (by omega)
    have x2 : (yb_pI (yb_pI v 134 i (zi (zyLh M F k (i + 1)) + zi (zyh M F i))) 135 i (zi (zyLp M F k (i + 1)) + zi (zyP M F i))).1 136 (i + 1) = zi (zyLw M F k (i + 1)) := by rw [zu_ne (by decide), zu_ne (by decide)]; exact p3
    have x3 : (yb_pI (yb_pI v 134 i (zi (zyLh M F k (i + 1)) + zi (zyh M F i))) 135 i (zi (zyLp M F k (i + 1)) + zi (zyP M F i))).1 33 (F i) = M.1 199 (F i) := by rw [zu_ne (by decide), zu_ne (by decide), cq_33 i3 (by rw [eN]; exact hfi), hP 199 (by decide) (by decide)]
    rw [zi_rd (by omega) (by omega), Option.bind_some, x2, zi_rd (by omega) (by omega), Option.bind_some, x3]
    have g1 : ∀ j, (yb_pI (yb_pI v 134 i (zi (zyLh M F k (i + 1)) + zi (zyh M F i))) 135 i (zi (zyLp M F k (i + 1)) + zi (zyP M F i))).1 134 j = if j = i then zi (zyLh M F (k + 1) i) else v.1 134 j := fun j => by
      rw [zu_ne (by decide), zu_id, zi_add]
      rfl
    have g2 : ∀ j, (yb_pI (yb_pI v 134 i (zi (zyLh M F k (i + 1)) + zi (zyh M F i))) 135 i (zi (zyLp M F k (i + 1)) + zi (zyP M F i))).1 135 j = if j = i then zi (zyLp M F (k + 1) i) else v.1 135 j := fun j => by
      rw [zu_id, zu_ne (by decide), zi_add]
      rfl
    have g3 : ∀ id j, id ≠ 134 → id ≠ 135 → (yb_pI (yb_pI v 134 i (zi (zyLh M F k (i + 1)) + zi (zyh M F i))) 135 i (zi (zyLp M F k (i + 1)) + zi (zyP M F i))).1 id j = v.1 id j := fun id j q1 q2 => by rw [zu_ne q2, zu_ne q1]
    generalize yb_pI (yb_pI v 134 i (zi (zyLh M F k (i + 1)) + zi (zyh M F i))) 135 i (zi (zyLp M F k (i + 1)) + zi (zyP M F i)) = v2 at *
    have fin : ∀ y : Nat, y = zyW M F i → zs_P (j_X1_countLeft_154 (fun x1 x2 s => rc (x1, x2, s)) (zbits (zyc F i) (nF M)) (zi i) (zi y) (zi (zyLw M F k (i + 1))) (zi i) v2) (fun v => zA P m v ∧ zySt M F H n nh v) := fun y hy => by
      unfold j_X1_countLeft_154
      rw [zi_wr (by omega) (by omega), Option.bind_some, zi_add, hy]
      refine hnx hlt _ ⟨?_, ?_, zA_w x1 (by omega), fun id j q1 q2 q3 => ?_, fun j q1 q2 => ?_⟩
      · rw [show n - (k + 1) = i by omega]
      · by_cases c : k + 1 < n
        · rw [if_pos c, zi_predA (by omega), show n - 1 - (k + 1) = i - 1 by omega]
        · rw [if_neg c, show i = 0 by omega]
          rfl
      · dsimp only
        rw [zu_ne q3, g3 id j q1 q2]
        exact i4 id j q1 q2 q3
      · dsimp only
        rw [zu_ne (by decide), zu_ne (by decide), g1, g2, zu_id, g3 136 j (by decide) (by decide)]
        by_cases e : j = i
        · rw [if_pos e, if_pos e, if_pos e, e, show n - i = k + 1 by omega]
          exact ⟨rfl, rfl, rfl⟩
        · rw [if_neg e, if_neg e, if_neg e]
          exact i5 j (by omega) q2
    by_cases c : M.1 199 (F i) = -1
    · rw [if_pos c]
      exact fin 0 (by unfold zyW; rw [c]; rfl)
    · rw [if_neg c]
      exact fin 1 (by unfold zyW; rw [beq_eq_false_iff_ne.mpr c]; rfl)
  · have hkl := Nat.le_antisymm hk hge
    subst hkl
    rw [if_neg (Nat.lt_irrefl _), if_pos (by decide)]
    refine zs_ret ⟨i3, ⟨?_, ?_, ?_, fun j hj => ?_, fun j hj => ?_, fun j hj => i5 j (by omega) hj, fun j hj => ?_⟩⟩
    · rw [i4 128 1 (by decide) (by decide) (by decide)]
      exact h1
    · rw [i4 128 6 (by decide) (by decide) (by decide)]
      exact h6
    · rw [i4 128 7 (by decide) (by decide) (by decide)]
      exact h7
    · rw [i4 130 j (by decide) (by decide) (by decide)]
      exact h130 j hj
    · rw [i4 131 j (by decide) (by decide) (by decide)]
      exact h131 j hj
    · rw [i4 132 j (by decide) (by decide) (by decide)]
      exact h132 j hj
end
