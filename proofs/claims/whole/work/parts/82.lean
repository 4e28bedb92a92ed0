/-! best, pure: chosen numbers out of bits -/
/-- how many of the first q are chosen, and which -/
def zyF (b : Nat → Bool) : Nat → Nat × (Nat → Nat)
  | 0 => (0, fun _ => 0)
  | q + 1 => if b q = true then ((zyF b q).1 + 1, fun k => if k = (zyF b q).1 then q else (zyF b q).2 k) else zyF b q
theorem zyF_t {b : Nat → Bool} {q : Nat} (h : b q = true) : zyF b (q + 1) = ((zyF b q).1 + 1, fun k => if k = (zyF b q).1 then q else (zyF b q).2 k) := if_pos h
theorem zyF_f {b : Nat → Bool} {q : Nat} (h : b q = false) : zyF b (q + 1) = zyF b q := if_neg (by rw [h]; decide)
theorem zyF_ok {b : Nat → Bool} : ∀ {q : Nat}, (zyF b q).1 ≤ q ∧ (∀ k, k < (zyF b q).1 → (zyF b q).2 k < q ∧ b ((zyF b q).2 k) = true) ∧ (∀ j k, j < k → k < (zyF b q).1 → (zyF b q).2 j < (zyF b q).2 k) ∧ ∀ x, x < q → b x = true → ∃ k, k < (zyF b q).1 ∧ (zyF b q).2 k = x
  | 0 => ⟨Nat.le_refl _, fun k h => absurd h (Nat.not_lt_zero _), fun j k _ h => absurd h (Nat.not_lt_zero _), fun x h => absurd h (Nat.not_lt_zero _)⟩
  | q + 1 => by
    obtain ⟨h1, h2, h3, h4⟩ := zyF_ok (b := b) (q := q)
    cases hb : b q
    · rw [zyF_f hb]
      refine ⟨by omega, fun k hk => ⟨by have := (h2 k hk).1; omega, (h2 k hk).2⟩, h3, fun x hx hbx => ?_⟩
      by_cases e : x = q
      · rw [e, hb] at hbx
        cases hbx
      · exact h4 x (by omega) hbx
    · rw [zyF_t hb]
      refine ⟨by dsimp only; omega, fun k hk => ?_, fun j k hjk hk => ?_, fun x hx hbx => ?_⟩
      · dsimp only at hk ⊢
        by_cases e : k = (zyF b q).1
        · rw [if_pos e]
          exact ⟨by omega, hb⟩
        · rw [if_neg e]
          have := h2 k (by omega)
          exact ⟨by omega, this.2⟩
      · dsimp only at hk ⊢
        rw [if_neg (show ¬ j = (zyF b q).1 by omega)]
        by_cases e : k = (zyF b q).1
        · rw [if_pos e]
          exact (h2 j (by omega)).1
        · rw [if_neg e]
          exact h3 j k hjk (by omega)
      · by_cases e : x = q
        · refine ⟨(zyF b q).1, by dsimp only; omega, ?_⟩
          dsimp only
          rw [if_pos rfl, e]
        · obtain ⟨k, hk, ek⟩ := h4 x (by omega) hbx
          refine ⟨k, by dsimp only; omega, ?_⟩
          dsimp only
          rw [if_neg (show ¬ k = (zyF b q).1 by omega)]
          exact ek
/-! sums of numbers -/
def zns (g : Nat → Nat) : Nat → Nat
  | 0 => 0
  | k + 1 => zns g k + g k
theorem zns_s {g : Nat → Nat} {k : Nat} : zns g (k + 1) = zns g k + g k := rfl
theorem zns_c {g g' : Nat → Nat} : ∀ {n : Nat}, (∀ k, k < n → g k = g' k) → zns g n = zns g' n
  | 0, _ => rfl
  | n + 1, h => by rw [zns_s, zns_s, zns_c (n := n) (fun k hk => h k (by omega)), h n (by omega)]
theorem zns_le {g g' : Nat → Nat} : ∀ {n : Nat}, (∀ k, k < n → g k ≤ g' k) → zns g n ≤ zns g' n
  | 0, _ => Nat.le_refl _
  | n + 1, h => by
    have := zns_le (n := n) (g := g) (g' := g') fun k hk => h k (by omega)
    have := h n (by omega)
    rw [zns_s, zns_s]
    omega
theorem zns_b {g : Nat → Nat} {B : Nat} : ∀ {n : Nat}, (∀ k, k < n → g k ≤ B) → zns g n ≤ B * n
  | 0, _ => Nat.le_refl _
  | n + 1, h => by
    have := zns_b (n := n) (g := g) fun k hk => h k (by omega)
    have := h n (by omega)
    rw [zns_s, Nat.mul_succ]
    omega
/-- counting over the chosen -/
theorem zyF_sum {b p : Nat → Bool} : ∀ {q : Nat}, zsum (fun x => cond (p x && b x) 1 0) q = zi (zns (fun k => cond (p ((zyF b q).2 k)) 1 0) (zyF b q).1)
  | 0 => rfl
  | q + 1 => by
    rw [zsum_succ, zyF_sum (q := q)]
    cases hb : b q
    · rw [zyF_f hb, Bool.and_false]
      exact Int32.add_zero _
    · rw [zyF_t hb, Bool.and_true]
      dsimp only
      rw [zns_s, if_pos rfl]
      have e : zns (fun k => cond (p (if k = (zyF b q).1 then q else (zyF b q).2 k)) 1 0) (zyF b q).1 = zns (fun k => cond (p ((zyF b q).2 k)) 1 0) (zyF b q).1 := zns_c fun k hk => by rw [if_neg (show ¬ k = (zyF b q).1 by omega)]
      rw [e, show (cond (p q) 1 0 : Int32) = zi (cond (p q) 1 0) by cases p q <;> rfl, zi_add]
/-- the first k of the chosen, as a set -/
def zyc (F : Nat → Nat) : Nat → Nat → Bool
  | 0, _ => false
  | k + 1, q => zyc F k q || q == F k
theorem zyc_t {F : Nat → Nat} : ∀ {k q : Nat}, zyc F k q = true ↔ ∃ j, j < k ∧ q = F j
  | 0, q => ⟨fun h => (by cases h), fun ⟨j, h, _⟩ => absurd h (Nat.not_lt_zero _)⟩
  | k + 1, q => by
    unfold zyc
    rw [Bool.or_eq_true, zyc_t (k := k), beq_iff_eq]
    constructor
    · rintro (⟨j, hj, e⟩ | e)
      · exact ⟨j, by omega, e⟩
      · exact ⟨k, by omega, e⟩
    · rintro ⟨j, hj, e⟩
      by_cases ej : j = k
      · rw [ej] at e
        exact Or.inr e
      · exact Or.inl ⟨j, by omega, e⟩
theorem zsum_at {x : Int32} {f : Nat} : ∀ {n : Nat}, zsum (fun q => cond (q == f) x 0) n = if f < n then x else 0
  | 0 => by rw [if_neg (Nat.not_lt_zero _)]; rfl
  | n + 1 => by
    rw [zsum_succ, zsum_at (n := n)]
    by_cases e : n = f
    · subst e
      rw [if_neg (Nat.lt_irrefl _), if_pos (Nat.lt_succ_self _), beq_self_eq_true]
      exact Int32.zero_add _
    · rw [beq_eq_false_iff_ne.mpr e]
      show _ + (0 : Int32) = _
      rw [Int32.add_zero]
      by_cases h : f < n
      · rw [if_pos h, if_pos (by omega)]
      · rw [if_neg h, if_neg (by omega)]
theorem zyc_sum {F : Nat → Nat} {p : Nat → Bool} {N n : Nat} (hN : ∀ k, k < n → F k < N) (hinj : ∀ j k, j < k → k < n → F j < F k) : ∀ {k : Nat}, k ≤ n → zsum (fun q => cond (p q && zyc F k q) 1 0) N = zi (zns (fun j => cond (p (F j)) 1 0) k)
  | 0, _ => by
    have e : zsum (fun q => cond (p q && zyc F 0 q) 1 0) N = zsum (fun _ => (0 : Int32)) N := zsum_congr fun q _ => by
      show cond (p q && false) (1 : Int32) 0 = 0
      rw [Bool.and_false]
      rfl
    rw [e, zsum_z]
    rfl
  | k + 1, hk => by
    have e : zsum (fun q => cond (p q && zyc F (k + 1) q) 1 0) N = zsum (fun q => cond (p q && zyc F k q) 1 0) N + zsum (fun q => cond (q == F k) (cond (p (F k)) 1 0) 0) N := by
      rw [zsum_add]
      refine zsum_congr fun q _ => ?_
      show cond (p q && (zyc F k q || q == F k)) (1 : Int32) 0 = cond (p q && zyc F k q) 1 0 + cond (q == F k) (cond (p (F k)) 1 0) 0
      by_cases eq : q = F k
      · have hf : zyc F k q = false := by
          cases h : zyc F k q
          · rfl
          · obtain ⟨j, hj, ej⟩ := zyc_t.mp h
            have := hinj j k hj (by omega)
            omega
        rw [hf, eq, beq_self_eq_true]
        cases p (F k) <;> rfl
      · rw [beq_eq_false_iff_ne.mpr eq, Bool.or_false]
        exact (Int32.add_zero _).symm
    rw [e, zyc_sum hN hinj (k := k) (by omega), zsum_at, if_pos (hN k (by omega)), zns_s, show (cond (p (F k)) 1 0 : Int32) = zi (cond (p (F k)) 1 0) by cases p (F k) <;> rfl, zi_add]
/-! the best so far, and what is better -/
abbrev zyB : Type := Option (Nat × Nat × Nat × (Nat → Int32))
def zyb (x y z : Nat) (B : zyB) : Bool := match B with
  | none => true
  | some (a, b, c, _) => decide (a < x) || (decide (a = x) && (decide (b < y) || (decide (b = y) && decide (c < z))))
theorem zyb_t {x y z a b c : Nat} {l : Nat → Int32} : zyb x y z (some (a, b, c, l)) = true ↔ a < x ∨ (a = x ∧ (b < y ∨ (b = y ∧ c < z))) := by
  show (decide (a < x) || (decide (a = x) && (decide (b < y) || (decide (b = y) && decide (c < z))))) = true ↔ _
  simp only [Bool.or_eq_true, Bool.and_eq_true, decide_eq_true_eq]
theorem zyb_m {x y z x' y' z' : Nat} {B : zyB} (h1 : x ≤ x') (h2 : y ≤ y') (h3 : z ≤ z') (h : zyb x' y' z' B = false) : zyb x y z B = false := by
  cases B with
  | none => cases h
  | some q =>
    obtain ⟨a, b, c, l⟩ := q
    cases h0 : zyb x y z (some (a, b, c, l))
    · rfl
    · rw [zyb_t] at h0
      have : zyb x' y' z' (some (a, b, c, l)) = true := by
        rw [zyb_t]
        omega
      rw [h] at this
      cases this
def zyfd (g : Nat → zyB → zyB) : Nat → zyB → zyB
  | 0, B => B
  | j + 1, B => g j (zyfd g j B)
theorem zyfd_s {g : Nat → zyB → zyB} {j : Nat} {B : zyB} : zyfd g (j + 1) B = g j (zyfd g j B) := rfl
theorem zyfd_id {g : Nat → zyB → zyB} {B : zyB} : ∀ {j : Nat}, (∀ i, i < j → g i B = B) → zyfd g j B = B
  | 0, _ => rfl
  | j + 1, h => by rw [zyfd_s, zyfd_id (j := j) (fun i hi => h i (by omega)), h j (by omega)]
theorem zyfd_c {g g' : Nat → zyB → zyB} {B : zyB} : ∀ {j : Nat}, (∀ i C, i < j → g i C = g' i C) → zyfd g j B = zyfd g' j B
  | 0, _ => rfl
  | j + 1, h => by rw [zyfd_s, zyfd_s, zyfd_c (j := j) (fun i C hi => h i C (by omega)), h j _ (by omega)]
def zyu (l : Nat → Int32) (i : Nat) (v : Int32) : Nat → Int32 := fun k => if k = i then v else l k
section
variable {M : yb_S} {F H : Nat → Nat} {n nh : Nat}
/-- heads, pairs, wishes that the i-th brings in the home h, and at most -/
def zyh (M : yb_S) (F : Nat → Nat) (i : Nat) : Nat := (M.1 189 (F i)).toNatClampNeg
def zyk (M : yb_S) (F : Nat → Nat) (l : Nat → Int32) (i h j : Nat) : Bool := zKin M (F i) (F j) && (l j != -1 && M.1 183 (l j).toNatClampNeg == M.1 183 h)
def zyp (M : yb_S) (F : Nat → Nat) (l : Nat → Int32) (i h : Nat) : Nat := zns (fun j => cond (zyk M F l i h j) 1 0) i
def zyw (M : yb_S) (F : Nat → Nat) (i h : Nat) : Nat := cond (M.1 199 (F i) == M.1 183 h) 1 0
def zyP (M : yb_S) (F : Nat → Nat) (i : Nat) : Nat := zns (fun j => cond (zKin M (F i) (F j)) 1 0) i
def zyW (M : yb_S) (F : Nat → Nat) (i : Nat) : Nat := cond (M.1 199 (F i) == -1) 0 1
theorem zyp_le {l : Nat → Int32} {i h : Nat} : zyp M F l i h ≤ zyP M F i := zns_le fun j _ => by
  unfold zyk
  cases zKin M (F i) (F j)
  · exact Nat.le_refl _
  · cases (l j != -1 && M.1 183 (l j).toNatClampNeg == M.1 183 h)
    · exact Nat.zero_le _
    · exact Nat.le_refl _
/-- what the i-th and those behind it can bring at most: r of them -/
def zyLh (M : yb_S) (F : Nat → Nat) : Nat → Nat → Nat
  | 0, _ => 0
  | r + 1, i => zyLh M F r (i + 1) + zyh M F i
def zyLp (M : yb_S) (F : Nat → Nat) : Nat → Nat → Nat
  | 0, _ => 0
  | r + 1, i => zyLp M F r (i + 1) + zyP M F i
def zyLw (M : yb_S) (F : Nat → Nat) : Nat → Nat → Nat
  | 0, _ => 0
  | r + 1, i => zyLw M F r (i + 1) + zyW M F i
/-- all ways, in their order -/
def zyex (M : yb_S) (F H : Nat → Nat) (nh : Nat) : Nat → Nat → yb_S → (Nat → Int32) → Nat → Nat → Nat → zyB → zyB
  | 0, _, _, l, x, y, z, B => cond (zyb x y z B) (some (x, y, z, l)) B
  | r + 1, i, P, l, x, y, z, B => zyex M F H nh r (i + 1) P (zyu l i (-1)) x y z (zyfd (fun j C => if zBar P (F i) (H j) = 0 then zyex M F H nh r (i + 1) (zHs P (F i) (H j)) (zyu l i (zi (H j))) (x + zyh M F i) (y + zyp M F l i (H j)) (z + zyw M F i (H j)) C else C) nh B)
/-- the same, but for those that can't be better -/
def zypr (M : yb_S) (F H : Nat → Nat) (nh : Nat) : Nat → Nat → yb_S → (Nat → Int32) → Nat → Nat → Nat → zyB → zyB
  | 0, _, _, l, x, y, z, B => cond (zyb x y z B) (some (x, y, z, l)) B
  | r + 1, i, P, l, x, y, z, B => cond (zyb (x + zyLh M F (r + 1) i) (y + zyLp M F (r + 1) i) (z + zyLw M F (r + 1) i) B) (zypr M F H nh r (i + 1) P (zyu l i (-1)) x y z (zyfd (fun j C => if zBar P (F i) (H j) = 0 then zypr M F H nh r (i + 1) (zHs P (F i) (H j)) (zyu l i (zi (H j))) (x + zyh M F i) (y + zyp M F l i (H j)) (z + zyw M F i (H j)) C else C) nh B)) B
theorem zyw_le (hw : ∀ j, j < nh → M.1 183 (H j) ≠ -1) {i j : Nat} (hj : j < nh) : zyw M F i (H j) ≤ zyW M F i := by
  unfold zyw zyW
  by_cases e : M.1 199 (F i) = -1
  · have : (M.1 199 (F i) == M.1 183 (H j)) = false := beq_eq_false_iff_ne.mpr (by rw [e]; exact fun q => hw j hj q.symm)
    rw [this]
    exact Nat.zero_le _
  · rw [beq_eq_false_iff_ne.mpr e]
    cases (M.1 199 (F i) == M.1 183 (H j))
    · exact Nat.zero_le _
    · exact Nat.le_refl _
theorem zyex_no (hw : ∀ j, j < nh → M.1 183 (H j) ≠ -1) : ∀ (r i : Nat) (P : yb_S) (l : Nat → Int32) (x y z : Nat) (B : zyB), zyb (x + zyLh M F r i) (y + zyLp M F r i) (z + zyLw M F r i) B = false → zyex M F H nh r i P l x y z B = B
  | 0, i, P, l, x, y, z, B, h => by
    have h : zyb x y z B = false := h
    unfold zyex
    rw [h]
    rfl
  | r + 1, i, P, l, x, y, z, B, h => by
    have e1 : zyLh M F (r + 1) i = zyLh M F r (i + 1) + zyh M F i := rfl
    have e2 : zyLp M F (r + 1) i = zyLp M F r (i + 1) + zyP M F i := rfl
    have e3 : zyLw M F (r + 1) i = zyLw M F r (i + 1) + zyW M F i := rfl
    rw [e1, e2, e3] at h
    unfold zyex
    rw [zyfd_id fun j hj => ?_]
    · exact zyex_no hw r (i + 1) P _ x y z B (zyb_m (by omega) (by omega) (by omega) h)
    · split
      · have q1 := zyp_le (M := M) (F := F) (l := l) (i := i) (h := H j)
        have q2 := zyw_le (M := M) (F := F) hw (i := i) hj
        exact zyex_no hw r (i + 1) _ _ _ _ _ B (zyb_m (by omega) (by omega) (by omega) h)
      · rfl
theorem zypr_ex (hw : ∀ j, j < nh → M.1 183 (H j) ≠ -1) : ∀ (r i : Nat) (P : yb_S) (l : Nat → Int32) (x y z : Nat) (B : zyB), zypr M F H nh r i P l x y z B = zyex M F H nh r i P l x y z B
  | 0, i, P, l, x, y, z, B => rfl
  | r + 1, i, P, l, x, y, z, B => by
    cases hb : zyb (x + zyLh M F (r + 1) i) (y + zyLp M F (r + 1) i) (z + zyLw M F (r + 1) i) B
    · rw [zyex_no hw (r + 1) i P l x y z B hb]
      unfold zypr
      rw [hb]
      rfl
    · unfold zypr zyex
      rw [hb, cond_true, zypr_ex hw r]
      congr 1
      refine zyfd_c fun j C hj => ?_
      split
      · exact zypr_ex hw r _ _ _ _ _ _ C
      · rfl
end
