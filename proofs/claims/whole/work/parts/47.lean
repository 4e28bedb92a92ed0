/-! who is ahead: the line -/
def zup (q : Nat → Nat) (i v : Nat) : Nat → Nat := fun j => if j = i then v else q j
def zIns (rk : Nat → Int32) (f : Nat) : Nat → (Nat → Nat) → (Nat → Nat)
  | 0, q => zup q 0 f
  | i + 1, q => if rk f ≤ rk (q i) then zup q (i + 1) f else zIns rk f i (zup q (i + 1) (q i))
theorem zIns_ok {rk : Nat → Int32} {f n : Nat} : ∀ {i : Nat} {q : Nat → Nat}, i ≤ n → (∀ j k, j ≤ n → k ≤ n → j ≠ i → k ≠ i → q j = q k → j = k) → (∀ j, j ≤ n → j ≠ i → q j ≠ f) → (∀ j k, j ≤ n → k ≤ n → zIns rk f i q j = zIns rk f i q k → j = k) ∧ (∀ j, j ≤ n → zIns rk f i q j = f ∨ ∃ k, k ≤ n ∧ k ≠ i ∧ q k = zIns rk f i q j) ∧ (∃ j, j ≤ n ∧ zIns rk f i q j = f) ∧ ∀ k, k ≤ n → k ≠ i → ∃ j, j ≤ n ∧ zIns rk f i q j = q k := by
  have base : ∀ {i : Nat} {q : Nat → Nat}, i ≤ n → (∀ j k, j ≤ n → k ≤ n → j ≠ i → k ≠ i → q j = q k → j = k) → (∀ j, j ≤ n → j ≠ i → q j ≠ f) → (∀ j k, j ≤ n → k ≤ n → zup q i f j = zup q i f k → j = k) ∧ (∀ j, j ≤ n → zup q i f j = f ∨ ∃ k, k ≤ n ∧ k ≠ i ∧ q k = zup q i f j) ∧ (∃ j, j ≤ n ∧ zup q i f j = f) ∧ ∀ k, k ≤ n → k ≠ i → ∃ j, j ≤ n ∧ zup q i f j = q k := by
    intro i q hi h1 h2
    refine ⟨fun j k hj hk e => ?_, fun j hj => ?_, ⟨i, hi, if_pos rfl⟩, fun k hk hki => ⟨k, hk, if_neg hki⟩⟩
    · unfold zup at e
      by_cases ej : j = i
      · by_cases ek : k = i
        · rw [ej, ek]
        · rw [if_pos ej, if_neg ek] at e
          exact absurd e.symm (h2 k hk ek)
      · by_cases ek : k = i
        · rw [if_neg ej, if_pos ek] at e
          exact absurd e (h2 j hj ej)
        · rw [if_neg ej, if_neg ek] at e
          exact h1 j k hj hk ej ek e
    · unfold zup
      by_cases ej : j = i
      · exact Or.inl (if_pos ej)
      · exact Or.inr ⟨j, hj, ej, (if_neg ej).symm⟩
  intro i
  induction i with
  | zero => exact fun hi h1 h2 => base hi h1 h2
  | succ i ih =>
    intro q hi h1 h2
    show (∀ j k, j ≤ n → k ≤ n → (if rk f ≤ rk (q i) then zup q (i + 1) f else zIns rk f i (zup q (i + 1) (q i))) j = (if rk f ≤ rk (q i) then zup q (i + 1) f else zIns rk f i (zup q (i + 1) (q i))) k → j = k) ∧ (∀ j, j ≤ n → (if rk f ≤ rk (q i) then zup q (i + 1) f else zIns rk f i (zup q (i + 1) (q i))) j = f ∨ ∃ k, k ≤ n ∧ k ≠ i + 1 ∧ q k = (if rk f ≤ rk (q i) then zup q (i + 1) f else zIns rk f i (zup q (i + 1) (q i))) j) ∧ (∃ j, j ≤ n ∧ (if rk f ≤ rk (q i) then zup q (i + 1) f else zIns rk f i (zup q (i + 1) (q i))) j = f) ∧ ∀ k, k ≤ n → k ≠ i + 1 → ∃ j, j ≤ n ∧ (if rk f ≤ rk (q i) then zup q (i + 1) f else zIns rk f i (zup q (i + 1) (q i))) j = q k
    by_cases c : rk f ≤ rk (q i)
    · rw [if_pos c]
      exact base hi h1 h2
    · rw [if_neg c]
      obtain ⟨a1, a2, a3, a4⟩ := ih (q := zup q (i + 1) (q i)) (by omega) (fun j k hj hk hji hki e => by
        unfold zup at e
        by_cases ej : j = i + 1
        · by_cases ek : k = i + 1
          · rw [ej, ek]
          · rw [if_pos ej, if_neg ek] at e
            exact absurd (h1 i k (by omega) hk (by omega) ek e).symm hki
        · by_cases ek : k = i + 1
          · rw [if_neg ej, if_pos ek] at e
            exact absurd (h1 j i hj (by omega) ej (by omega) e) hji
          · rw [if_neg ej, if_neg ek] at e
            exact h1 j k hj hk ej ek e) (fun j hj hji => by
        unfold zup
        by_cases ej : j = i + 1
        · rw [if_pos ej]
          exact h2 i (by omega) (by omega)
        · rw [if_neg ej]
          exact h2 j hj ej)
      refine ⟨a1, fun j hj => ?_, a3, fun k hk hki => ?_⟩
      · rcases a2 j hj with e | ⟨k, hk, hki, e⟩
        · exact Or.inl e
        · unfold zup at e
          by_cases ek : k = i + 1
          · rw [if_pos ek] at e
            exact Or.inr ⟨i, by omega, by omega, e⟩
          · rw [if_neg ek] at e
            exact Or.inr ⟨k, hk, ek, e⟩
      · by_cases ek : k = i
        · obtain ⟨j, hj, e⟩ := a4 (i + 1) hi (by omega)
          refine ⟨j, hj, e.trans ?_⟩
          unfold zup
          rw [if_pos rfl, ek]
        · obtain ⟨j, hj, e⟩ := a4 k hk ek
          refine ⟨j, hj, e.trans ?_⟩
          unfold zup
          rw [if_neg hki]
def zRk0 (M : yb_S) (f : Nat) : Int32 := zTell M 0 (zNf M f 0)
def zLine (M : yb_S) : Nat → Nat × (Nat → Nat)
  | 0 => (0, fun _ => 0)
  | f + 1 => if M.1 195 f = 0 then ((zLine M f).1 + 1, zIns (zRk0 M) f (zLine M f).1 (zLine M f).2) else zLine M f
theorem zLine_s {M : yb_S} {f : Nat} : zLine M (f + 1) = if M.1 195 f = 0 then ((zLine M f).1 + 1, zIns (zRk0 M) f (zLine M f).1 (zLine M f).2) else zLine M f := rfl
theorem zLine_ok {M : yb_S} : ∀ (n : Nat), (zLine M n).1 ≤ n ∧ (∀ j k, j < (zLine M n).1 → k < (zLine M n).1 → (zLine M n).2 j = (zLine M n).2 k → j = k) ∧ (∀ j, j < (zLine M n).1 → (zLine M n).2 j < n ∧ M.1 195 ((zLine M n).2 j) = 0) ∧ ∀ f, f < n → M.1 195 f = 0 → ∃ j, j < (zLine M n).1 ∧ (zLine M n).2 j = f
  | 0 => ⟨Nat.le_refl _, fun j _ hj => absurd hj (Nat.not_lt_zero _), fun j hj => absurd hj (Nat.not_lt_zero _), fun f hf => absurd hf (Nat.not_lt_zero _)⟩
  | n + 1 => by
    obtain ⟨a1, a2, a3, a4⟩ := zLine_ok (M := M) n
    rw [zLine_s]
    by_cases h0 : M.1 195 n = 0
    · rw [if_pos h0]
      obtain ⟨b1, b2, b3, b4⟩ := zIns_ok (rk := zRk0 M) (f := n) (n := (zLine M n).1) (i := (zLine M n).1) (q := (zLine M n).2) (Nat.le_refl _) (fun j k hj hk hji hki e => a2 j k (by omega) (by omega) e) (fun j hj hji e => by
        have := (a3 j (by omega)).1
        omega)
      refine ⟨by dsimp only; omega, fun j k hj hk e => b1 j k (by dsimp only at hj; omega) (by dsimp only at hk; omega) e, fun j hj => ?_, fun f hf hf0 => ?_⟩
      · dsimp only at hj ⊢
        rcases b2 j (by omega) with e | ⟨k, hk, hki, e⟩
        · rw [e]
          exact ⟨by omega, h0⟩
        · rw [← e]
          have := a3 k (by omega)
          exact ⟨by omega, this.2⟩
      · dsimp only
        by_cases e : f = n
        · obtain ⟨j, hj, e2⟩ := b3
          exact ⟨j, by omega, e2.trans e.symm⟩
        · obtain ⟨k, hk, e2⟩ := a4 f (by omega) hf0
          obtain ⟨j, hj, e3⟩ := b4 k (by omega) (by omega)
          exact ⟨j, by omega, e3.trans e2⟩
    · rw [if_neg h0]
      refine ⟨by omega, a2, fun j hj => ⟨by have := (a3 j hj).1; omega, (a3 j hj).2⟩, fun f hf hf0 => ?_⟩
      by_cases e : f = n
      · rw [e] at hf0
        exact absurd hf0 h0
      · exact a4 f (by omega) hf0
/-- the class lines up -/
theorem zo_put {M m s : yb_S} (hA : zA M m s) {rk : Nat → Int32} {f n : Nat} {q : Nat → Nat} {fr : Nat → Int32} (hn : n < 24) (hf : f < 24) (hq : ∀ j, j < n → q j < f) (hord : ∀ j, j < n → s.1 101 j = zi (q j)) (hrk : ∀ g, g ≤ f → s.1 102 g = rk g) (hc : s.1 100 4 = zi n) : zs_P (f_X6_putInLine (zi f) s) (fun u => zA M m u ∧ (∀ j, j < n + 1 → u.1 101 j = zi (zIns rk f n q j)) ∧ (∀ g, u.1 102 g = s.1 102 g) ∧ u.1 100 4 = zi (n + 1) ∧ u.1 100 5 = s.1 100 5) := by
  unfold f_X6_putInLine l_X6_putInLine_10
  rw [hc]
  refine zs_it (fun k a => k ≤ n ∧ a.1 = zi k ∧ a.2.1 = zi k ∧ zA M m a.2.2 ∧ (∀ g, a.2.2.1 102 g = s.1 102 g) ∧ a.2.2.1 100 4 = zi n ∧ a.2.2.1 100 5 = s.1 100 5 ∧ ∃ p : Nat → Nat, (∀ j, j < n + 1 → j ≠ k → a.2.2.1 101 j = zi (p j)) ∧ (∀ j, j < k → p j < f) ∧ zIns rk f k p = zIns rk f n q) ?_ yb_N n _ (by unfold yb_N; omega) ⟨Nat.le_refl _, rfl, rfl, hA, fun _ => rfl, hc, rfl, q, fun j hj hjn => hord j (by omega), hq, rfl⟩
  rintro k ⟨x2, x3, u⟩ rc ⟨hk, i1, i2, i3, i4, i5, i9, p, i6, i7, i8⟩ hn2
  dsimp only at i1 i2 i3 i4 i5 i6 i9
  subst i1 i2
  show zs_P (f_X6_putInLine_10 (fun x2 x3 s => rc (x2, x3, s)) (zi f) (zi k) (zi k) u) _
  unfold f_X6_putInLine_10 j_X6_putInLine_60
  have hend : zup p k f = zIns rk f n q → zs_P ((yb_wr u 101 24 (zi k) (zi f)).bind fun s2 => (some (yb_pI s2 100 4 ((s2.1 100 4) + (1 : Int32)))).bind fun s3 => some s3) (fun u => zA M m u ∧ (∀ j, j < n + 1 → u.1 101 j = zi (zIns rk f n q j)) ∧ (∀ g, u.1 102 g = s.1 102 g) ∧ u.1 100 4 = zi (n + 1) ∧ u.1 100 5 = s.1 100 5) := by
    intro he
    rw [zi_wr (by omega) (by omega), Option.bind_some, zu_ne (by decide), i5, zi_succ]
    refine zs_ret ⟨zA_100 (zA_w i3 (by omega)), fun j hj => ?_, fun g => ?_, ?_, ?_⟩
    · rw [zu_ne (by decide), zu_id, ← he]
      unfold zup
      by_cases e : j = k
      · rw [if_pos e, if_pos e]
      · rw [if_neg e, if_neg e]
        exact i6 j hj e
    · rw [zu_ne (by decide), zu_ne (by decide)]
      exact i4 g
    · rw [zu_eq]
    · rw [zu_id, if_neg (by decide), zu_ne (by decide)]
      exact i9
  cases k with
  | zero =>
    rw [if_pos (by decide)]
    exact hend i8
  | succ k =>
    have hpk := i7 k (by omega)
    rw [if_neg (by rw [show (0 : Int32) = zi 0 from rfl, zi_le (by omega) (by omega)]; omega), zi_gt, zi_rd (by omega) (by omega), Option.bind_some, i6 k (by omega) (by omega), zi_rd (by omega) (by omega), Option.bind_some, i4, hrk _ (by omega), zi_rd (by omega) (by omega), Option.bind_some, i4, hrk _ (Nat.le_refl _)]
    have i8 : (if rk f ≤ rk (p k) then zup p (k + 1) f else zIns rk f k (zup p (k + 1) (p k))) = zIns rk f n q := i8
    by_cases c : rk f ≤ rk (p k)
    · rw [if_pos c] at i8 ⊢
      exact hend i8
    · rw [if_neg c] at i8 ⊢
      rw [Option.bind_some, zi_wr (by omega) (by omega), Option.bind_some, show zi (k + 1) + (-1) = zi k from by rw [show (-1 : Int32) = zm from rfl, zi_addm (by omega)]; rfl]
      refine hn2 k _ (by omega) ⟨by omega, rfl, rfl, zA_w i3 (by omega), fun g => ?_, ?_, ?_, zup p (k + 1) (p k), fun j hj hjk => ?_, fun j hj => ?_, i8⟩
      · dsimp only
        rw [zu_ne (by decide)]
        exact i4 g
      · dsimp only
        rw [zu_ne (by decide)]
        exact i5
      · dsimp only
        rw [zu_ne (by decide)]
        exact i9
      · dsimp only
        rw [zu_id]
        unfold zup
        by_cases e : j = k + 1
        · rw [if_pos e, if_pos e]
        · rw [if_neg e, if_neg e]
          exact i6 j hj e
      · unfold zup
        rw [if_neg (by omega)]
        exact i7 j (by omega)
theorem zo_lineUp {M m s : yb_S} (hW : zW M) (hA : zA M m s) : zs_P (f_X6_lineUp s) (fun u => zA M m u ∧ (∀ j, j < (zLine M (nF M)).1 → u.1 101 j = zi ((zLine M (nF M)).2 j)) ∧ u.1 100 4 = zi (zLine M (nF M)).1 ∧ u.1 100 5 = s.1 100 5) := by
  have h8 := zw_F8 hW
  unfold f_X6_lineUp l_X6_lineUp_7
  rw [Option.bind_some]
  refine zs_up (fun f a => a.1 = zi f ∧ zA M m a.2 ∧ (∀ j, j < (zLine M f).1 → a.2.1 101 j = zi ((zLine M f).2 j)) ∧ (∀ j, j < (zLine M f).1 → a.2.1 102 ((zLine M f).2 j) = zRk0 M ((zLine M f).2 j)) ∧ a.2.1 100 4 = zi (zLine M f).1 ∧ a.2.1 100 5 = s.1 100 5 ∧ ∀ g, g < f → M.1 195 g = 0 → a.2.1 102 g = zRk0 M g) (nF M) ?_ yb_N 0 _ (Nat.zero_le _) (by unfold yb_N; omega) ⟨rfl, zA_100 hA, fun j hj => absurd hj (Nat.not_lt_zero _), fun j hj => absurd hj (Nat.not_lt_zero _), by dsimp only; rw [zu_eq]; rfl, by dsimp only; rw [zu_id, if_neg (by decide)], fun g hg => absurd hg (Nat.not_lt_zero _)⟩
  rintro f ⟨x, u⟩ rc hf ⟨i1, i2, i3, i4, i5, i7, i6⟩ hn
  dsimp only at i1 i2 i3 i4 i5 i6 i7
  subst i1
  show zs_P (f_X6_lineUp_7 (fun x1 s => rc (x1, s)) (zi f) u) _
  unfold f_X6_lineUp_7 j_X6_lineUp_55
  rw [cq_F i2, zw_F hW]
  obtain ⟨a1, a2, a3, a4⟩ := zLine_ok (M := M) f
  rcases Nat.lt_or_ge f (nF M) with hlt | hge
  · rw [if_neg (by rw [zi_le (by omega) (by omega)]; omega), zi_rd (by omega) (by omega), Option.bind_some, cq_28 i2 hlt, zi_succ]
    by_cases h0 : M.1 195 f = 0
    · rw [if_pos h0]
      refine zs_bind (zo_ahead hW i2 hlt) fun a ha => ?_
      have hfo := ha.2
      have hAa := zfo_A ha.2 i2
      rw [ha.1, zi_wr (by omega) (by omega), Option.bind_some]
      have hA2 : zA M m (yb_pI a.2 102 f (zRk0 M f)) := zA_w hAa (by omega)
      have hz : zTell M 0 (zNf M f 0) = zRk0 M f := rfl
      rw [hz]
      refine zs_bind (zo_put (fr := fun _ => 0) hA2 (rk := fun g => (yb_pI a.2 102 f (zRk0 M f)).1 102 g) (f := f) (n := (zLine M f).1) (q := (zLine M f).2) (by omega) (by omega) (fun j hj => (a3 j hj).1) (fun j hj => ?_) (fun g _ => rfl) ?_) fun v hv => ?_
      · rw [zu_ne (by decide), hfo.1 101 (by decide) (by decide)]
        exact i3 j hj
      · rw [zu_ne (by decide), hfo.1 100 (by decide) (by decide)]
        exact i5
      · have hrk : ∀ g, g ≤ f → M.1 195 g = 0 → (yb_pI a.2 102 f (zRk0 M f)).1 102 g = zRk0 M g := fun g hg hg0 => by
          rw [zu_id]
          by_cases e : g = f
          · rw [if_pos e, e]
          · rw [if_neg e, hfo.1 102 (by decide) (by decide)]
            exact i6 g (by omega) hg0
        have hins : ∀ (i : Nat) (p : Nat → Nat), (∀ j, j < i → p j < f ∧ M.1 195 (p j) = 0) → zIns (fun g => (yb_pI a.2 102 f (zRk0 M f)).1 102 g) f i p = zIns (zRk0 M) f i p := by
          intro i
          induction i with
          | zero => intro p _; rfl
          | succ i ih =>
            intro p hp
            show (if (yb_pI a.2 102 f (zRk0 M f)).1 102 f ≤ (yb_pI a.2 102 f (zRk0 M f)).1 102 (p i) then zup p (i + 1) f else zIns (fun g => (yb_pI a.2 102 f (zRk0 M f)).1 102 g) f i (zup p (i + 1) (p i))) = if zRk0 M f ≤ zRk0 M (p i) then zup p (i + 1) f else zIns (zRk0 M) f i (zup p (i + 1) (p i))
            have hpi := hp i (by omega)
            rw [hrk f (Nat.le_refl _) h0, hrk (p i) (by omega) hpi.2, ih _ (fun j hj => by
              unfold zup
              rw [if_neg (by omega)]
              exact hp j (by omega))]
        have hl : zLine M (f + 1) = ((zLine M f).1 + 1, zIns (zRk0 M) f (zLine M f).1 (zLine M f).2) := by rw [zLine_s, if_pos h0]
        have hv2 := hv.2.1
        rw [hins _ _ a3] at hv2
        obtain ⟨b1, b2, b3, b4⟩ := zLine_ok (M := M) (f + 1)
        refine hn hlt _ ⟨rfl, hv.1, fun j hj => ?_, fun j hj => ?_, ?_, ?_, fun g hg hg0 => ?_⟩
        · rw [hl] at hj ⊢
          exact hv2 j hj
        · dsimp only
          rw [hv.2.2.1]
          exact hrk _ (by have := (b3 j hj).1; omega) (b3 j hj).2
        · rw [hl]
          exact hv.2.2.2.1
        · dsimp only
          rw [hv.2.2.2.2, zu_ne (by decide), hfo.1 100 (by decide) (by decide)]
          exact i7
        · dsimp only
          rw [hv.2.2.1]
          exact hrk g (by omega) hg0
    · rw [if_neg h0]
      have hl : zLine M (f + 1) = zLine M f := by rw [zLine_s, if_neg h0]
      refine hn hlt _ ⟨rfl, i2, by rw [hl]; exact i3, by rw [hl]; exact i4, by rw [hl]; exact i5, i7, fun g hg hg0 => ?_⟩
      by_cases e : g = f
      · rw [e] at hg0
        exact absurd hg0 h0
      · exact i6 g (by omega) hg0
  · have hkl := Nat.le_antisymm hf hge
    subst hkl
    rw [if_pos (Int32.le_refl _)]
    exact zs_ret ⟨i2, i3, i5, i7⟩
/-- the reference lines up -/
theorem zm_orders {M o s : yb_S} (hW : zW M) (hQ : zQ M o s) : zs_P (f_X12_orders s) (fun u => zQ M o u ∧ (∀ j, j < (zLine M (nF M)).1 → u.1 339 j = zi ((zLine M (nF M)).2 j)) ∧ u.1 176 65 = zi (zLine M (nF M)).1 ∧ ∀ id, 603 ≤ id → u.1 id = s.1 id) := by
  have h8 := zw_F8 hW
  unfold f_X12_orders l_X12_orders_7
  rw [Option.bind_some]
  refine zs_up (fun f a => a.1 = zi f ∧ zQ M o a.2 ∧ (∀ j, j < (zLine M f).1 → a.2.1 339 j = zi ((zLine M f).2 j)) ∧ a.2.1 176 65 = zi (zLine M f).1 ∧ (∀ g, g < f → M.1 195 g = 0 → a.2.1 340 g = zRk0 M g) ∧ ∀ id, 603 ≤ id → a.2.1 id = s.1 id) (nF M) ?_ yb_N 0 _ (Nat.zero_le _) (by unfold yb_N; omega) ⟨rfl, zQ_k hQ (by omega), fun j hj => absurd hj (Nat.not_lt_zero _), by dsimp only; rw [zu_eq]; rfl, fun g hg => absurd hg (Nat.not_lt_zero _), fun id hid => zu_nef (by omega)⟩
  rintro f ⟨x, u⟩ rc hf ⟨i1, i2, i3, i5, i6, i7⟩ hn
  dsimp only at i1 i2 i3 i5 i6 i7
  subst i1
  show zs_P (f_X12_orders_7 (fun x1 s => rc (x1, s)) (zi f) u) _
  unfold f_X12_orders_7 j_X12_orders_107
  rw [zqk i2 (by omega), zw_F hW]
  obtain ⟨a1, a2, a3, a4⟩ := zLine_ok (M := M) f
  rcases Nat.lt_or_ge f (nF M) with hlt | hge
  · rw [if_neg (by rw [zi_le (by omega) (by omega)]; omega), zi_rd (by omega) (by omega), Option.bind_some, zq i2 (by omega)]
    by_cases h0 : M.1 195 f = 0
    · rw [if_pos h0]
      refine zs_bind (zm_askedOf hW i2 (c := 0) hlt (by decide)) fun a ha => ?_
      have hG := ha.2
      have hQa := zG_Q hG i2
      have hfr : ∀ id k, (id < 218 ∨ 242 ≤ id) → id ≠ 337 → id ≠ 338 → (id ≠ 176 ∨ k ≠ 42) → a.2.1 id k = u.1 id k := hG.1.1
      rw [ha.1, zi_wr (by omega) (by omega), Option.bind_some]
      have hz : zTell M 0 (zNf M f 0) = zRk0 M f := rfl
      rw [hz]
      have hl : zLine M (f + 1) = ((zLine M f).1 + 1, zIns (zRk0 M) f (zLine M f).1 (zLine M f).2) := by rw [zLine_s, if_pos h0]
      generalize hb : yb_pI a.2 340 f (zRk0 M f) = b
      have hQb : zQ M o b := by
        rw [← hb]
        exact zQ_w hQa (by omega)
      have b339 : ∀ j, j < (zLine M f).1 → b.1 339 j = zi ((zLine M f).2 j) := fun j hj => by
        rw [← hb, zu_ne (by decide), hfr _ _ (by omega) (by omega) (by omega) (by omega)]
        exact i3 j hj
      have b340 : ∀ g, g ≤ f → M.1 195 g = 0 → b.1 340 g = zRk0 M g := fun g hg hg0 => by
        rw [← hb, zu_id]
        by_cases e : g = f
        · rw [if_pos e, e]
        · rw [if_neg e, hfr _ _ (by omega) (by omega) (by omega) (by omega)]
          exact i6 g (by omega) hg0
      have b65 : b.1 176 65 = zi (zLine M f).1 := by
        rw [← hb, zu_ne (by decide), hfr _ _ (by omega) (by omega) (by omega) (by omega)]
        exact i5
      have b603 : ∀ id, 603 ≤ id → b.1 id = s.1 id := fun id hid => by
        rw [← hb, zu_nef (by omega), ← i7 id hid]
        exact funext fun k => hfr _ _ (by omega) (by omega) (by omega) (by omega)
      unfold l_X12_orders_44
      rw [b65]
      refine zs_it (fun k a => k ≤ (zLine M f).1 ∧ a.1 = zi k ∧ zQ M o a.2 ∧ (∀ g, a.2.1 340 g = b.1 340 g) ∧ a.2.1 176 65 = zi (zLine M f).1 ∧ (∀ id, 603 ≤ id → a.2.1 id = s.1 id) ∧ ∃ p : Nat → Nat, (∀ j, j < (zLine M f).1 + 1 → j ≠ k → a.2.1 339 j = zi (p j)) ∧ (∀ j, j < k → p j < f ∧ M.1 195 (p j) = 0) ∧ zIns (zRk0 M) f k p = zIns (zRk0 M) f (zLine M f).1 (zLine M f).2) ?_ yb_N (zLine M f).1 _ (by unfold yb_N; omega) ⟨Nat.le_refl _, rfl, hQb, fun _ => rfl, b65, b603, (zLine M f).2, fun j hj hjn => b339 j (by omega), a3, rfl⟩
      rintro k ⟨x2, w⟩ rc2 ⟨hk, j1, j3, j4, j5, j9, p, j6, j7, j8⟩ hn2
      dsimp only at j1 j3 j4 j5 j6 j9
      subst j1
      show zs_P (f_X12_orders_44 _ (fun x2 s => rc2 (x2, s)) (zi f) (zi k) w) _
      unfold f_X12_orders_44 j_X12_orders_90 j_X12_orders_107
      have hend : zup p k f = zIns (zRk0 M) f (zLine M f).1 (zLine M f).2 → zs_P ((yb_wr w 339 24 (zi k) (zi f)).bind fun s9 => (some (yb_pI s9 176 65 ((s9.1 176 65) + (1 : Int32)))).bind fun s10 => rc (zi f + 1, s10)) (fun u => zQ M o u ∧ (∀ j, j < (zLine M (nF M)).1 → u.1 339 j = zi ((zLine M (nF M)).2 j)) ∧ u.1 176 65 = zi (zLine M (nF M)).1 ∧ ∀ id, 603 ≤ id → u.1 id = s.1 id) := by
        intro he
        rw [zi_wr (by omega) (by omega), Option.bind_some, zu_ne (by decide), j5, zi_succ, Option.bind_some, zi_succ]
        refine hn hlt _ ⟨rfl, zQ_k (zQ_w j3 (by omega)) (by omega), fun j hj => ?_, ?_, fun g hg hg0 => ?_, fun id hid => ?_⟩
        · dsimp only
          rw [hl] at hj ⊢
          rw [zu_ne (by decide), zu_id, ← he]
          unfold zup
          dsimp only at hj ⊢
          by_cases e : j = k
          · rw [if_pos e, if_pos e]
          · rw [if_neg e, if_neg e]
            exact j6 j hj e
        · dsimp only
          rw [zu_eq, hl]
        · dsimp only
          rw [zu_ne (by decide), zu_ne (by decide), j4]
          exact b340 g (by omega) hg0
        · dsimp only
          rw [zu_nef (by omega), zu_nef (by omega)]
          exact j9 id hid
      cases k with
      | zero =>
        rw [if_pos (by decide)]
        exact hend j8
      | succ k =>
        have hpk := j7 k (by omega)
        rw [if_neg (by rw [show (0 : Int32) = zi 0 from rfl, zi_le (by omega) (by omega)]; omega), zi_gt, zi_rd (by omega) (by omega), Option.bind_some, j6 k (by omega) (by omega), zi_rd (by omega) (by omega), Option.bind_some, j4, b340 _ (by omega) hpk.2, zi_rd (by omega) (by omega), Option.bind_some, j4, b340 _ (Nat.le_refl _) h0]
        have j8 : (if zRk0 M f ≤ zRk0 M (p k) then zup p (k + 1) f else zIns (zRk0 M) f k (zup p (k + 1) (p k))) = zIns (zRk0 M) f (zLine M f).1 (zLine M f).2 := j8
        by_cases c : zRk0 M f ≤ zRk0 M (p k)
        · rw [if_pos c] at j8 ⊢
          exact hend j8
        · rw [if_neg c] at j8 ⊢
          rw [Option.bind_some, zi_wr (by omega) (by omega), Option.bind_some, show zi (k + 1) + (-1) = zi k from by rw [show (-1 : Int32) = zm from rfl, zi_addm (by omega)]; rfl]
          refine hn2 k _ (by omega) ⟨by omega, rfl, zQ_w j3 (by omega), fun g => ?_, ?_, fun id hid => ?_, zup p (k + 1) (p k), fun j hj hjk => ?_, fun j hj => ?_, j8⟩
          · dsimp only
            rw [zu_ne (by decide)]
            exact j4 g
          · dsimp only
            rw [zu_ne (by decide)]
            exact j5
          · dsimp only
            rw [zu_nef (by omega)]
            exact j9 id hid
          · dsimp only
            rw [zu_id]
            unfold zup
            by_cases e : j = k + 1
            · rw [if_pos e, if_pos e]
            · rw [if_neg e, if_neg e]
              exact j6 j hj e
          · unfold zup
            rw [if_neg (by omega)]
            exact j7 j (by omega)
    · rw [if_neg h0, zi_succ]
      have hl : zLine M (f + 1) = zLine M f := by rw [zLine_s, if_neg h0]
      refine hn hlt _ ⟨rfl, i2, by rw [hl]; exact i3, by rw [hl]; exact i5, fun g hg hg0 => ?_, i7⟩
      by_cases e : g = f
      · rw [e] at hg0
        exact absurd hg0 h0
      · exact i6 g (by omega) hg0
  · have hkl := Nat.le_antisymm hf hge
    subst hkl
    rw [if_pos (Int32.le_refl _)]
    exact zs_ret ⟨i2, i3, i5, i7⟩
