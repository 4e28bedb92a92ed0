/-! best: the class tries -/
theorem zKin_P {M P : yb_S} (h : ∀ id, id ≠ 195 → id ≠ 196 → P.1 id = M.1 id) {f q : Nat} : zKin P f q = zKin M f q := by
  have e : ∀ a b, zFinds P a b = zFinds M a b := fun a b => by
    unfold zFinds zHit zOf nR nK
    rw [h 176 (by decide) (by decide), h 214 (by decide) (by decide), h 215 (by decide) (by decide), h 216 (by decide) (by decide), h 208 (by decide) (by decide), h 209 (by decide) (by decide), h 212 (by decide) (by decide), h 213 (by decide) (by decide)]
  unfold zKin
  rw [e, e]
/-- the chosen stand as the line says, the others as they were -/
def zyPa (M : yb_S) (F : Nat → Nat) (n i : Nat) (P : yb_S) (l : Nat → Int32) : Prop := zW P ∧ (∀ id, id ≠ 195 → id ≠ 196 → P.1 id = M.1 id) ∧ (∀ k, k < i → (l k = -1 ∧ P.1 195 (F k) = 0 ∧ P.1 196 (F k) = -1) ∨ ∃ h, h < nH M ∧ l k = zi h ∧ P.1 195 (F k) = 1 ∧ P.1 196 (F k) = zi h) ∧ ∀ k, i ≤ k → k < n → P.1 195 (F k) = 0 ∧ P.1 196 (F k) = -1
def zyFH (M : yb_S) (F H : Nat → Nat) (n nh : Nat) : Prop := n ≤ 6 ∧ nh ≤ 6 ∧ (∀ k, k < n → F k < nF M) ∧ (∀ j k, j < k → k < n → F j < F k) ∧ ∀ j, j < nh → H j < nH M
section
variable {M m : yb_S} {F H : Nat → Nat} {n nh : Nat}
theorem zyPa_N {i : Nat} {P : yb_S} {l : Nat → Int32} (p : zyPa M F n i P l) : nF P = nF M ∧ nH P = nH M ∧ nT P = nT M := by
  unfold nF nH nT
  rw [p.2.1 176 (by decide) (by decide)]
  exact ⟨rfl, rfl, rfl⟩
theorem zyPa_n {i : Nat} {P : yb_S} {l : Nat → Int32} (hi : i < n) (p : zyPa M F n i P l) : zyPa M F n (i + 1) P (zyu l i (-1)) := by
  obtain ⟨p1, p2, p3, p4⟩ := p
  refine ⟨p1, p2, fun k hk => ?_, fun k hk hn => p4 k (by omega) hn⟩
  unfold zyu
  by_cases e : k = i
  · rw [if_pos e, e]
    exact Or.inl ⟨rfl, (p4 i (Nat.le_refl _) hi).1, (p4 i (Nat.le_refl _) hi).2⟩
  · rw [if_neg e]
    exact p3 k (by omega)
theorem zyFr {i h : Nat} {P : yb_S} {l : Nat → Int32} (hF : zyFH M F H n nh) (hi : i < n) (p : zyPa M F n i P l) (hb : zBar P (F i) h = 0) : zFree P h := by
  refine zFree_of p.1 (by rw [(zyPa_N p).1]; exact hF.2.2.1 i hi) hb fun q => ?_
  rw [(p.2.2.2 i (Nat.le_refl _) hi).1] at q
  exact absurd q.1 (by decide)
theorem zyPa_h {i h : Nat} {P : yb_S} {l : Nat → Int32} (hF : zyFH M F H n nh) (hi : i < n) (hh : h < nH M) (p : zyPa M F n i P l) (hb : zBar P (F i) h = 0) : zyPa M F n (i + 1) (zHs P (F i) h) (zyu l i (zi h)) := by
  obtain ⟨q1, q2, q3⟩ := zyPa_N p
  have hfr := zyFr hF hi p hb
  obtain ⟨p1, p2, p3, p4⟩ := p
  have hne : ∀ k, k < n → k ≠ i → F k ≠ F i := fun k hk e q => by
    rcases Nat.lt_or_ge k i with c | c
    · have := hF.2.2.2.1 k i c hi
      omega
    · have := hF.2.2.2.1 i k (by omega) hk
      omega
  refine ⟨zHs_W p1 (by rw [q1]; exact hF.2.2.1 i hi) (by rw [q2]; exact hh) (p4 i (Nat.le_refl _) hi).1 hfr, fun id a b => (zHous_c zHs_h a b).trans (p2 id a b), fun k hk => ?_, fun k hk hn => ?_⟩
  · unfold zyu
    by_cases e : k = i
    · rw [if_pos e, e]
      exact Or.inr ⟨h, hh, rfl, zHs_1.1, zHs_1.2⟩
    · rw [if_neg e, zHs_h.1 195 (F k) (Or.inr (hne k (by omega) e)), zHs_h.1 196 (F k) (Or.inr (hne k (by omega) e))]
      exact p3 k (by omega)
  · rw [zHs_h.1 195 (F k) (Or.inr (hne k hn (by omega))), zHs_h.1 196 (F k) (Or.inr (hne k hn (by omega)))]
    exact p4 k (by omega) hn
theorem zUn_Hs {P : yb_S} {f h : Nat} (h1 : P.1 195 f = 0) (h2 : P.1 196 f = -1) : zUn (zHs P f h) f = P := by
  apply Prod.ext
  · funext id k
    by_cases e : (id ≠ 195 ∧ id ≠ 196) ∨ k ≠ f
    · rw [zUn_h.1 id k e, zHs_h.1 id k e]
    · have ek : k = f := Classical.byContradiction fun q => e (Or.inr q)
      subst ek
      by_cases e5 : id = 195
      · rw [e5, zUn_1.1, h1]
      · have e6 : id = 196 := Classical.byContradiction fun q => e (Or.inl ⟨e5, q⟩)
        rw [e6, zUn_1.2, h2]
  · rfl
/-- the class's scratch for the search -/
def zySt (M : yb_S) (F H : Nat → Nat) (n nh : Nat) (u : yb_S) : Prop := u.1 128 1 = zi n ∧ u.1 128 6 = zbits (zyc F n) (nF M) ∧ u.1 128 7 = zi nh ∧ (∀ k, k < n → u.1 130 k = zi (F k)) ∧ (∀ j, j < nh → u.1 131 j = zi (H j)) ∧ (∀ k, k ≤ n → u.1 134 k = zi (zyLh M F (n - k) k) ∧ u.1 135 k = zi (zyLp M F (n - k) k) ∧ u.1 136 k = zi (zyLw M F (n - k) k)) ∧ ∀ k, k < n → u.1 132 k = M.1 196 (F k)
def zyBc (n : Nat) (B : zyB) (u : yb_S) : Prop := match B with
  | none => u.1 128 2 = -1
  | some (a, b, c, l) => a ≤ 60 ∧ b ≤ 60 ∧ c ≤ 60 ∧ u.1 128 2 = zi a ∧ u.1 128 4 = zi b ∧ u.1 128 5 = zi c ∧ ∀ k, k < n → u.1 129 k = l k
def zyfr (u v : yb_S) : Prop := ∀ id, 128 ≤ id → id < 137 → v.1 id = u.1 id
theorem zyfr_S {u v : yb_S} (f : zyfr u v) (h : zySt M F H n nh u) : zySt M F H n nh v := by
  unfold zySt at *
  rw [f 128 (by omega) (by omega), f 130 (by omega) (by omega), f 131 (by omega) (by omega), f 134 (by omega) (by omega), f 135 (by omega) (by omega), f 136 (by omega) (by omega), f 132 (by omega) (by omega)]
  exact h
theorem zyfr_B {B : zyB} {u v : yb_S} (f : zyfr u v) (h : zyBc n B u) : zyBc n B v := by
  cases B with
  | none =>
    show v.1 128 2 = -1
    rw [f 128 (by omega) (by omega)]
    exact h
  | some q =>
    obtain ⟨a, b, c, l⟩ := q
    show a ≤ 60 ∧ b ≤ 60 ∧ c ≤ 60 ∧ v.1 128 2 = zi a ∧ v.1 128 4 = zi b ∧ v.1 128 5 = zi c ∧ ∀ k, k < n → v.1 129 k = l k
    rw [f 128 (by omega) (by omega), f 129 (by omega) (by omega)]
    exact h
theorem zo_better {B : zyB} {u : yb_S} {x y z : Nat} (h : zyBc n B u) (hx : x ≤ 200) (hy : y ≤ 200) (hz : z ≤ 200) : f_X1_isBetter (zi x) (zi y) (zi z) u = some (zb (zyb x y z B)) := by
  unfold f_X1_isBetter
  cases B with
  | none =>
    have h : u.1 128 2 = -1 := h
    rw [h, if_neg (by rw [zi_m1 (by omega)]; exact id), if_neg (by rw [show (-1 : Int32) = zm from rfl, zi_lem (by omega)]; exact id)]
    rfl
  | some q =>
    obtain ⟨a, b, c, l⟩ := q
    obtain ⟨h1, h2, h3, h4, h5, h6, h7⟩ := h
    rw [h4, h5, h6]
    have out : ∀ v : Bool, (v = true ↔ (a < x ∨ (a = x ∧ (b < y ∨ (b = y ∧ c < z))))) → some (zb v) = some (zb (zyb x y z (some (a, b, c, l)))) := fun v hv => by
      have : v = zyb x y z (some (a, b, c, l)) := by
        rw [Bool.eq_iff_iff, zyb_t]
        exact hv
      rw [this]
    by_cases e1 : x = a
    · rw [if_pos (by rw [e1])]
      by_cases e2 : y = b
      · rw [if_pos (by rw [e2])]
        by_cases e3 : z ≤ c
        · rw [if_pos (by rw [zi_le (by omega) (by omega)]; exact e3)]
          exact out false ⟨fun q => (by cases q), fun q => (by omega)⟩
        · rw [if_neg (by rw [zi_le (by omega) (by omega)]; exact e3)]
          exact out true ⟨fun _ => by omega, fun _ => rfl⟩
      · rw [if_neg (by rw [zi_inj (by omega) (by omega)]; exact e2)]
        by_cases e3 : y ≤ b
        · rw [if_pos (by rw [zi_le (by omega) (by omega)]; exact e3)]
          exact out false ⟨fun q => (by cases q), fun q => (by omega)⟩
        · rw [if_neg (by rw [zi_le (by omega) (by omega)]; exact e3)]
          exact out true ⟨fun _ => by omega, fun _ => rfl⟩
    · rw [if_neg (by rw [zi_inj (by omega) (by omega)]; exact e1)]
      by_cases e3 : x ≤ a
      · rw [if_pos (by rw [zi_le (by omega) (by omega)]; exact e3)]
        exact out false ⟨fun q => (by cases q), fun q => (by omega)⟩
      · rw [if_neg (by rw [zi_le (by omega) (by omega)]; exact e3)]
        exact out true ⟨fun _ => by omega, fun _ => rfl⟩
/-- only the best so far is written -/
theorem zo_keepWay {P u : yb_S} {l : Nat → Int32} {x y z : Nat} (hn : n ≤ 6) (hA : zA P m u) (hS : zySt M F H n nh u) (hl : ∀ k, k < n → u.1 133 k = l k) (hx : x ≤ 60) (hy : y ≤ 60) (hz : z ≤ 60) : zs_P (f_X1_keepWay (zi x) (zi y) (zi z) u) (fun v => zA P m v ∧ zySt M F H n nh v ∧ (∀ k, v.1 133 k = u.1 133 k) ∧ zyBc n (some (x, y, z, l)) v) := by
  unfold f_X1_keepWay
  rw [Option.bind_some, Option.bind_some, Option.bind_some]
  have hA3 := zA_w (zA_w (zA_w hA (id := 128) (k := 2) (x := zi x) (by omega)) (id := 128) (k := 4) (x := zi y) (by omega)) (id := 128) (k := 5) (x := zi z) (by omega)
  have e1 : ∀ id k, id ≠ 128 ∨ (k ≠ 2 ∧ k ≠ 4 ∧ k ≠ 5) → (yb_pI (yb_pI (yb_pI u 128 2 (zi x)) 128 4 (zi y)) 128 5 (zi z)).1 id k = u.1 id k := fun id k q => by
    by_cases e : id = 128
    · subst e
      rw [zu_id, if_neg (by omega), zu_id, if_neg (by omega), zu_id, if_neg (by omega)]
    · rw [zu_ne e, zu_ne e, zu_ne e]
  have e2 : (yb_pI (yb_pI (yb_pI u 128 2 (zi x)) 128 4 (zi y)) 128 5 (zi z)).1 128 2 = zi x := by rw [zu_id, if_neg (by decide), zu_id, if_neg (by decide), zu_eq]
  have e4 : (yb_pI (yb_pI (yb_pI u 128 2 (zi x)) 128 4 (zi y)) 128 5 (zi z)).1 128 4 = zi y := by rw [zu_id, if_neg (by decide), zu_eq]
  have e5 : (yb_pI (yb_pI (yb_pI u 128 2 (zi x)) 128 4 (zi y)) 128 5 (zi z)).1 128 5 = zi z := zu_eq
  generalize yb_pI (yb_pI (yb_pI u 128 2 (zi x)) 128 4 (zi y)) 128 5 (zi z) = w at *
  unfold l_X1_keepWay_18
  refine zs_up (fun k a => a.1 = zi k ∧ zA P m a.2 ∧ (∀ id k, id ≠ 129 → a.2.1 id k = w.1 id k) ∧ ∀ j, j < k → a.2.1 129 j = l j) n ?_ yb_N 0 _ (Nat.zero_le _) (by unfold yb_N; omega) (by exact ⟨rfl, hA3, fun _ _ _ => rfl, fun j hj => absurd hj (Nat.not_lt_zero _)⟩)
  rintro k ⟨a, v⟩ rc hk ⟨i1, i2, i3, i4⟩ hnx
  dsimp only at i1 i2 i3 i4
  subst i1
  show zs_P (f_X1_keepWay_18 (fun x4 s => rc (x4, s)) (zi k) v) _
  unfold f_X1_keepWay_18
  rw [i3 128 1 (by omega), e1 128 1 (by omega), hS.1]
  rcases Nat.lt_or_ge k n with hlt | hge
  · rw [if_neg (by rw [zi_le (by omega) (by omega)]; omega), zi_rd (by omega) (by omega), Option.bind_some, zi_wr (by omega) (by omega), Option.bind_some, zi_succ]
    refine hnx hlt _ ⟨rfl, zA_w i2 (by omega), fun id j q => ?_, fun j hj => ?_⟩
    · dsimp only
      rw [zu_ne q]
      exact i3 id j q
    · dsimp only
      by_cases e : j = k
      · rw [e, zu_eq, i3 133 k (by omega), e1 133 k (by omega)]
        exact hl k hlt
      · rw [zu_col e]
        exact i4 j (by omega)
  · have hkl := Nat.le_antisymm hk hge
    subst hkl
    rw [if_pos (Int32.le_refl _)]
    have ef : ∀ id k, id ≠ 129 → id ≠ 128 ∨ (k ≠ 2 ∧ k ≠ 4 ∧ k ≠ 5) → v.1 id k = u.1 id k := fun id k q1 q2 => (i3 id k q1).trans (e1 id k q2)
    refine zs_ret ⟨i2, ?_, fun j => ef 133 j (by omega) (by omega), hx, hy, hz, ?_, ?_, ?_, i4⟩
    · obtain ⟨s1, s2, s3, s4, s5, s6, s7⟩ := hS
      refine ⟨by rw [ef 128 1 (by omega) (by omega)]; exact s1, by rw [ef 128 6 (by omega) (by omega)]; exact s2, by rw [ef 128 7 (by omega) (by omega)]; exact s3, fun k hk => ?_, fun j hj => ?_, fun k hk => ?_, fun k hk => ?_⟩
      · rw [ef 130 k (by omega) (by omega)]
        exact s4 k hk
      · rw [ef 131 j (by omega) (by omega)]
        exact s5 j hj
      · rw [ef 134 k (by omega) (by omega), ef 135 k (by omega) (by omega), ef 136 k (by omega) (by omega)]
        exact s6 k hk
      · rw [ef 132 k (by omega) (by omega)]
        exact s7 k hk
    · rw [i3 128 2 (by omega)]
      exact e2
    · rw [i3 128 4 (by omega)]
      exact e4
    · rw [i3 128 5 (by omega)]
      exact e5
theorem zns_cut {g : Nat → Nat} {i : Nat} : ∀ {n : Nat}, i ≤ n → (∀ k, i ≤ k → k < n → g k = 0) → zns g n = zns g i
  | 0, h, _ => by rw [Nat.le_zero.mp h]
  | n + 1, h, hz => by
    by_cases e : i = n + 1
    · rw [e]
    · rw [zns_s, zns_cut (n := n) (by omega) (fun k a b => hz k a (by omega)), hz n (by omega) (by omega), Nat.add_zero]
/-- the pairs, counted by bits -/
theorem zo_pairs {P u s : yb_S} {i h t : Nat} {l : Nat → Int32} (hF : zyFH M F H n nh) (p : zyPa M F n i P l) (hA : zA P m u) (hi : i < n) (ht : M.1 183 h = zi t) (ht8 : t < 8) : f_J6_bitCount_0f7a4 ((u.1 53 (F i) &&& zbits (zyc F n) (nF M)) &&& u.1 11 t) s = some (zi (zyp M F l i h)) := by
  have h8 := zw_F8 p.1
  obtain ⟨n1, n2, n3⟩ := zyPa_N p
  rw [n1] at h8
  have hfi := hF.2.2.1 i hi
  have e53 := cq_53 hA (t := F i) (by omega)
  have e11 : u.1 11 t = zLodg P t := (hA.1.2.1.1 t ht8).2.2.2
  rw [e53, e11, n1]
  unfold zLodg
  rw [n1, zbits_and (by omega) (by omega), zbits_and (by omega) (by omega), zo_bits h8]
  have e : zsum (fun k => cond ((zKin P (F i) k && (decide (k < nF M) && zyc F n k)) && (decide (k < nF M) && zTown P k == zi t)) (1 : Int32) 0) (nF M) = zsum (fun q => cond ((zKin P (F i) q && zTown P q == zi t) && zyc F n q) 1 0) (nF M) := zsum_congr fun k hk => by
    rw [decide_eq_true hk]
    cases zKin P (F i) k <;> cases zyc F n k <;> cases (zTown P k == zi t) <;> rfl
  rw [e, zyc_sum (n := n) (fun k hk => hF.2.2.1 k hk) hF.2.2.2.1 (Nat.le_refl _)]
  congr 2
  unfold zyp
  rw [zns_cut (i := i) (Nat.le_of_lt hi) fun k hk hkn => ?_]
  · refine zns_c fun k hk => ?_
    unfold zyk
    rw [zKin_P p.2.1]
    congr 2
    rcases p.2.2.1 k hk with ⟨q1, q2, q3⟩ | ⟨h', hh', q1, q2, q3⟩
    · rw [zTown_0 (by rw [q2]; decide), q1, show ((-1 : Int32) != -1) = false from rfl, Bool.false_and]
      exact beq_eq_false_iff_ne.mpr fun q => by
        rw [show (-1 : Int32) = zm from rfl] at q
        exact absurd q.symm (by rw [zi_eqm (by omega)]; exact fun h => h)
    · have h24 := zw_H8 p.1
      rw [n2] at h24
      unfold zTown
      rw [q2, q3, q1, zi_tn (by omega), p.2.1 183 (by decide) (by decide), ht, show (zi h' != -1) = true from bne_iff_ne.mpr (by rw [Ne, zi_m1 (by omega)]; exact fun h => h), Bool.true_and]
      rfl
  · rw [zTown_0 (by rw [(p.2.2.2 k hk hkn).1]; decide), show ((-1 : Int32) == zi t) = false from beq_eq_false_iff_ne.mpr fun q => by
      rw [show (-1 : Int32) = zm from rfl] at q
      exact absurd q.symm (by rw [zi_eqm (by omega)]; exact fun h => h), Bool.and_false]
    rfl
end
