/-! PURE PART, base: total runs of the translated functions, Nat indices, loops -/
def zi (k : Nat) : Int32 := Int32.ofNat k
def zs_P {α : Type} (e : Option α) (Q : α → Prop) : Prop := ∃ a, e = some a ∧ Q a
theorem zs_ret {α : Type} {a : α} {Q : α → Prop} (h : Q a) : zs_P (some a) Q := ⟨a, rfl, h⟩
theorem zs_bind {α β : Type} {e : Option α} {f : α → Option β} {R : α → Prop} {Q : β → Prop} (h : zs_P e R) (k : ∀ a, R a → zs_P (f a) Q) : zs_P (e.bind f) Q := by
  obtain ⟨a, rfl, hR⟩ := h
  exact k a hR
theorem zs_mono {α : Type} {e : Option α} {R Q : α → Prop} (h : zs_P e R) (k : ∀ a, R a → Q a) : zs_P e Q := by
  obtain ⟨a, rfl, hR⟩ := h
  exact ⟨a, rfl, k a hR⟩
theorem zs_ite {α : Type} {c : Prop} [Decidable c] {a b : Option α} {Q : α → Prop} (h1 : c → zs_P a Q) (h2 : ¬ c → zs_P b Q) : zs_P (if c then a else b) Q := by
  by_cases h : c
  · rw [if_pos h]; exact h1 h
  · rw [if_neg h]; exact h2 h
theorem zs_of {α : Type} {e : Option α} {a : α} {Q : α → Prop} (h : e = some a) (q : Q a) : zs_P e Q := ⟨a, h, q⟩
theorem zs_eq {α : Type} {e : Option α} {a : α} (h : zs_P e (fun b => b = a)) : e = some a := by
  obtain ⟨b, rfl, rfl⟩ := h
  rfl
/-- a loop that counts up: k rounds are done; it leaves at m at the latest -/
theorem zs_up {α β : Type} {F : (α → Option β) → α → Option β} {Q : β → Prop} (I : Nat → α → Prop) (m : Nat) (h : ∀ (k : Nat) (a : α) (rc : α → Option β), k ≤ m → I k a → (k < m → ∀ a', I (k + 1) a' → zs_P (rc a') Q) → zs_P (F rc a) Q) : ∀ (n k : Nat) (a : α), k ≤ m → m - k < n → I k a → zs_P (yb_it F n a) Q
  | 0, k, a, hk, hn, hI => absurd hn (Nat.not_lt_zero _)
  | n + 1, k, a, hk, hn, hI => by
    show zs_P (F (yb_it F n) a) Q
    exact h k a (yb_it F n) hk hI (fun hlt a' hI' => zs_up I m h n (k + 1) a' hlt (by omega) hI')
/-- the same, all told by equations -/
theorem zs_upE {α β : Type} {F : (α → Option β) → α → Option β} (A : Nat → α) (m : Nat) (r : β) (h : ∀ (k : Nat) (rc : α → Option β), k < m → F rc (A k) = rc (A (k + 1))) (hx : ∀ rc : α → Option β, F rc (A m) = some r) : ∀ (n k : Nat), k ≤ m → m - k < n → yb_it F n (A k) = some r
  | 0, k, hk, hn => absurd hn (Nat.not_lt_zero _)
  | n + 1, k, hk, hn => by
    show F (yb_it F n) (A k) = some r
    rcases Nat.lt_or_ge k m with hlt | hge
    · rw [h k _ hlt]
      exact zs_upE A m r h hx n (k + 1) hlt (by omega)
    · rw [Nat.le_antisymm hk hge]
      exact hx _
/-- any loop, by a measure -/
theorem zs_it {α β : Type} {F : (α → Option β) → α → Option β} {Q : β → Prop} (I : Nat → α → Prop) (h : ∀ (k : Nat) (a : α) (rc : α → Option β), I k a → (∀ k' a', k' < k → I k' a' → zs_P (rc a') Q) → zs_P (F rc a) Q) : ∀ (n k : Nat) (a : α), k < n → I k a → zs_P (yb_it F n a) Q
  | 0, k, a, hn, hI => absurd hn (Nat.not_lt_zero _)
  | n + 1, k, a, hn, hI => by
    show zs_P (F (yb_it F n) a) Q
    exact h k a (yb_it F n) hI (fun k' a' hlt hI' => zs_it I h n k' a' (by omega) hI')
/-! numbers -/
theorem zi_tn {k : Nat} (h : k < 2147483648) : (zi k).toNatClampNeg = k := Int32.toNatClampNeg_ofNat_of_lt h
theorem zi_le {a b : Nat} (ha : a < 2147483648) (hb : b < 2147483648) : (zi a ≤ zi b) = (a ≤ b) := propext (Int32.ofNat_le_iff_le ha hb)
theorem zi_lt {a b : Nat} (ha : a < 2147483648) (hb : b < 2147483648) : (zi a < zi b) = (a < b) := propext (Int32.ofNat_lt_iff_lt ha hb)
theorem zi_inj {a b : Nat} (ha : a < 2147483648) (hb : b < 2147483648) : (zi a = zi b) = (a = b) := propext ⟨fun h => by
  have := congrArg Int32.toNatClampNeg h
  rwa [zi_tn ha, zi_tn hb] at this, fun h => by rw [h]⟩
theorem zi_neg {a : Nat} (ha : a < 2147483648) : (zi a < 0) = False := by
  rw [show (0 : Int32) = zi 0 from rfl, zi_lt ha (by decide)]
  simp
theorem zi_ge0 {a : Nat} (ha : a < 2147483648) : (0 ≤ zi a) = True := by
  rw [show (0 : Int32) = zi 0 from rfl, zi_le (by decide) ha]
  simp
theorem zi_add (a b : Nat) : zi a + zi b = zi (a + b) := (Int32.ofNat_add a b).symm
theorem zi_succ (a : Nat) : zi a + 1 = zi (a + 1) := (Int32.ofNat_add a 1).symm
theorem zi_pred {a : Nat} (h : 0 < a) : zi a - 1 = zi (a - 1) := (Int32.ofNat_sub a 1 h).symm
theorem zi_predA {a : Nat} (h : 0 < a) : zi a + (-1) = zi (a - 1) := by
  rw [← zi_pred h, Int32.sub_eq_add_neg]
theorem zi_mul (a b : Nat) : zi a * zi b = zi (a * b) := (Int32.ofNat_mul a b).symm
theorem zi_m1 {a : Nat} (ha : a < 2147483648) : (zi a = -1) = False := by
  apply propext
  refine ⟨fun h => ?_, False.elim⟩
  have := zi_neg ha
  rw [h] at this
  exact this ▸ (by decide : ((-1 : Int32) < 0))
theorem zi_of {x : Int32} (h : 0 ≤ x) : x = zi x.toNatClampNeg := (Int32.ofNat_toNatClampNeg x h).symm
theorem zi_toInt {a : Nat} (ha : a < 2147483648) : (zi a).toInt = a := Int32.toInt_ofNat_of_lt ha
theorem zi_rd {s : yb_S} {id n k : Nat} (h : k < n) (hn : n < 2147483648) : yb_rd s id n (zi k) = some (s.1 id k) := by
  unfold yb_rd
  rw [zi_tn (Nat.lt_trans h hn), if_neg]
  intro q
  rcases q with q | q
  · rw [zi_neg (Nat.lt_trans h hn)] at q
    exact q
  · omega
theorem zi_rl {s : yb_S} {id n k : Nat} (h : k < n) (hn : n < 2147483648) : yb_rl s id n (zi k) = some (s.2 id k) := by
  unfold yb_rl
  rw [zi_tn (Nat.lt_trans h hn), if_neg]
  intro q
  rcases q with q | q
  · rw [zi_neg (Nat.lt_trans h hn)] at q
    exact q
  · omega
theorem zi_ri {b st n k : Nat} (h : k < n) (hn : n < 2147483648) : yb_ri b st n (zi k) = some (b + st * k) := by
  unfold yb_ri
  rw [zi_tn (Nat.lt_trans h hn), if_neg]
  intro q
  rcases q with q | q
  · rw [zi_neg (Nat.lt_trans h hn)] at q
    exact q
  · omega
theorem zi_wr {s : yb_S} {id n k : Nat} {x : Int32} (h : k < n) (hn : n < 2147483648) : yb_wr s id n (zi k) x = some (yb_pI s id k x) := by
  unfold yb_wr
  rw [zi_tn (Nat.lt_trans h hn), if_neg]
  intro q
  rcases q with q | q
  · rw [zi_neg (Nat.lt_trans h hn)] at q
    exact q
  · omega
theorem zi_wl {s : yb_S} {id n k : Nat} {x : Int64} (h : k < n) (hn : n < 2147483648) : yb_wl s id n (zi k) x = some (yb_pL s id k x) := by
  unfold yb_wl
  rw [zi_tn (Nat.lt_trans h hn), if_neg]
  intro q
  rcases q with q | q
  · rw [zi_neg (Nat.lt_trans h hn)] at q
    exact q
  · omega
/-- a number in its bounds, as a Nat -/
theorem zi_get {x : Int32} {n : Nat} (h0 : ¬ x < 0) (h1 : ¬ zi n ≤ x) (hn : n < 2147483648) : ∃ k, k < n ∧ x = zi k := by
  have h0' : 0 ≤ x := Int32.not_lt.mp h0
  refine ⟨x.toNatClampNeg, ?_, zi_of h0'⟩
  rw [zi_of h0', zi_le hn (by exact x.toNatClampNeg_lt)] at h1
  omega
/-! sums and bits over numbers below n -/
def zsum (g : Nat → Int32) : Nat → Int32
  | 0 => 0
  | n + 1 => zsum g n + g n
theorem zsum_congr {g g' : Nat → Int32} : ∀ {n : Nat}, (∀ k, k < n → g k = g' k) → zsum g n = zsum g' n
  | 0, _ => rfl
  | n + 1, h => by
    show zsum g n + g n = zsum g' n + g' n
    rw [zsum_congr (n := n) (fun k hk => h k (by omega)), h n (by omega)]
/-! cells -/
theorem zu_rd {s : yb_S} {id k id' k' : Nat} {x : Int32} : (yb_pI s id k x).1 id' k' = if id' = id then (if k' = k then x else s.1 id' k') else s.1 id' k' := rfl
theorem zu_rl {s : yb_S} {id k : Nat} {x : Int32} : (yb_pI s id k x).2 = s.2 := rfl
theorem zu_rdL {s : yb_S} {id k : Nat} {x : Int64} : (yb_pL s id k x).1 = s.1 := rfl
theorem zu_rlL {s : yb_S} {id k id' k' : Nat} {x : Int64} : (yb_pL s id k x).2 id' k' = if id' = id then (if k' = k then x else s.2 id' k') else s.2 id' k' := rfl
theorem z_in64 {u l h : Int64} {s : yb_S} : f_X12_in u l h s = some (if l ≤ u ∧ u ≤ h then 1 else 0) := by
  unfold f_X12_in
  simp only [lg_cmp_lt, lg_cmp_gt]
  by_cases h1 : u < l
  · rw [if_pos h1, if_neg (fun q => absurd q.1 (Int64.not_le.mpr h1))]
  · rw [if_neg h1]
    by_cases h2 : h < u
    · rw [if_pos h2, if_neg (fun q => absurd q.2 (Int64.not_le.mpr h2))]
    · rw [if_neg h2, if_pos ⟨Int64.not_lt.mp h1, Int64.not_lt.mp h2⟩]
theorem z64_le (u v : Int32) : (u.toInt64 ≤ v.toInt64) = (u ≤ v) := by
  apply propext
  rw [Int64.le_iff_toInt_le, Int32.le_iff_toInt_le, Int32.toInt_toInt64, Int32.toInt_toInt64]
theorem z_in {β : Type} {x lo hi : Int32} {l h : Int64} {s : yb_S} {f : Int32 → Option β} (hl : l = lo.toInt64) (hh : h = hi.toInt64) : (f_X12_in x.toInt64 l h s).bind f = if lo ≤ x ∧ x ≤ hi then f 1 else f 0 := by
  simp only [z_in64, hl, hh, z64_le, Option.bind_some]
  split <;> rfl
def zm : Int32 := -1
theorem zmd : (-1 : Int32) = zm := rfl
theorem zi_eqm {a : Nat} (ha : a < 2147483648) : (zi a = zm) = False := zi_m1 ha
theorem zi_meq {a : Nat} (ha : a < 2147483648) : (zm = zi a) = False := by rw [show (zm = zi a) = (zi a = zm) from propext ⟨Eq.symm, Eq.symm⟩]; exact zi_m1 ha
theorem zi_addm {a : Nat} (h : 0 < a) : zi a + zm = zi (a - 1) := zi_predA h
theorem zi_sub {a b : Nat} (h : b ≤ a) : zi a - zi b = zi (a - b) := (Int32.ofNat_sub a b h).symm
theorem zi_mlt {a : Nat} (ha : a < 2147483648) : (zm < zi a) = True := by
  rw [Int32.lt_iff_toInt_lt, zi_toInt ha]
  exact eq_true (by show (-1 : Int) < a; omega)
theorem zi_ltm {a : Nat} (ha : a < 2147483648) : (zi a < zm) = False := by
  rw [Int32.lt_iff_toInt_lt, zi_toInt ha]
  exact eq_false (by show ¬ ((a : Int) < -1); omega)
theorem zi_lem {a : Nat} (ha : a < 2147483648) : (zi a ≤ zm) = False := by
  rw [Int32.le_iff_toInt_le, zi_toInt ha]
  exact eq_false (by show ¬ ((a : Int) ≤ -1); omega)
theorem zi_mle {a : Nat} (ha : a < 2147483648) : (zm ≤ zi a) = True := by
  rw [Int32.le_iff_toInt_le, zi_toInt ha]
  exact eq_true (by show (-1 : Int) ≤ a; omega)
theorem zi_cases (x : Int32) : x < zi 0 ∨ ∃ k, k < 2147483648 ∧ x = zi k := by
  by_cases h : x < 0
  · exact Or.inl h
  · exact Or.inr ⟨x.toNatClampNeg, x.toNatClampNeg_lt, zi_of (Int32.not_lt.mp h)⟩
theorem zl : ((0 : Int32) = zi 0) ∧ ((1 : Int32) = zi 1) ∧ ((2 : Int32) = zi 2) ∧ ((3 : Int32) = zi 3) ∧ ((4 : Int32) = zi 4) ∧ ((5 : Int32) = zi 5) ∧ ((6 : Int32) = zi 6) ∧ ((7 : Int32) = zi 7) ∧ ((8 : Int32) = zi 8) ∧ ((9 : Int32) = zi 9) ∧ ((10 : Int32) = zi 10) ∧ ((11 : Int32) = zi 11) ∧ ((12 : Int32) = zi 12) ∧ ((13 : Int32) = zi 13) ∧ ((14 : Int32) = zi 14) ∧ ((15 : Int32) = zi 15) ∧ ((16 : Int32) = zi 16) ∧ ((17 : Int32) = zi 17) ∧ ((18 : Int32) = zi 18) ∧ ((19 : Int32) = zi 19) ∧ ((20 : Int32) = zi 20) ∧ ((21 : Int32) = zi 21) ∧ ((22 : Int32) = zi 22) ∧ ((23 : Int32) = zi 23) ∧ ((24 : Int32) = zi 24) ∧ ((25 : Int32) = zi 25) ∧ ((30 : Int32) = zi 30) ∧ ((32 : Int32) = zi 32) ∧ ((33 : Int32) = zi 33) ∧ ((38 : Int32) = zi 38) ∧ ((39 : Int32) = zi 39) ∧ ((40 : Int32) = zi 40) ∧ ((41 : Int32) = zi 41) ∧ ((42 : Int32) = zi 42) ∧ ((43 : Int32) = zi 43) ∧ ((44 : Int32) = zi 44) ∧ ((45 : Int32) = zi 45) ∧ ((46 : Int32) = zi 46) ∧ ((47 : Int32) = zi 47) ∧ ((48 : Int32) = zi 48) ∧ ((49 : Int32) = zi 49) ∧ ((50 : Int32) = zi 50) ∧ ((51 : Int32) = zi 51) ∧ ((52 : Int32) = zi 52) ∧ ((53 : Int32) = zi 53) ∧ ((54 : Int32) = zi 54) ∧ ((55 : Int32) = zi 55) ∧ ((56 : Int32) = zi 56) ∧ ((57 : Int32) = zi 57) ∧ ((58 : Int32) = zi 58) ∧ ((59 : Int32) = zi 59) ∧ ((60 : Int32) = zi 60) ∧ ((61 : Int32) = zi 61) ∧ ((62 : Int32) = zi 62) ∧ ((63 : Int32) = zi 63) ∧ ((64 : Int32) = zi 64) ∧ ((91 : Int32) = zi 91) ∧ ((93 : Int32) = zi 93) ∧ ((97 : Int32) = zi 97) ∧ ((100 : Int32) = zi 100) ∧ ((101 : Int32) = zi 101) ∧ ((110 : Int32) = zi 110) ∧ ((118 : Int32) = zi 118) ∧ ((120 : Int32) = zi 120) ∧ ((122 : Int32) = zi 122) ∧ ((124 : Int32) = zi 124) ∧ ((200 : Int32) = zi 200) ∧ ((255 : Int32) = zi 255) ∧ ((500 : Int32) = zi 500) ∧ ((999 : Int32) = zi 999) ∧ ((1000 : Int32) = zi 1000) ∧ ((99999 : Int32) = zi 99999) ∧ ((999999 : Int32) = zi 999999) ∧ ((1000000 : Int32) = zi 1000000) ∧ ((252645135 : Int32) = zi 252645135) ∧ ((858993459 : Int32) = zi 858993459) ∧ ((1431655765 : Int32) = zi 1431655765) ∧ ((2000000000 : Int32) = zi 2000000000) := ⟨rfl, rfl, rfl, rfl, rfl, rfl, rfl, rfl, rfl, rfl, rfl, rfl, rfl, rfl, rfl, rfl, rfl, rfl, rfl, rfl, rfl, rfl, rfl, rfl, rfl, rfl, rfl, rfl, rfl, rfl, rfl, rfl, rfl, rfl, rfl, rfl, rfl, rfl, rfl, rfl, rfl, rfl, rfl, rfl, rfl, rfl, rfl, rfl, rfl, rfl, rfl, rfl, rfl, rfl, rfl, rfl, rfl, rfl, rfl, rfl, rfl, rfl, rfl, rfl, rfl, rfl, rfl, rfl, rfl, rfl, rfl, rfl, rfl, rfl, rfl, rfl, rfl, rfl⟩
theorem zu_ne {s : yb_S} {id k id' k' : Nat} {x : Int32} (h : id' ≠ id) : (yb_pI s id k x).1 id' k' = s.1 id' k' := if_neg h
theorem zu_nef {s : yb_S} {id k id' : Nat} {x : Int32} (h : id' ≠ id) : (yb_pI s id k x).1 id' = s.1 id' := funext fun _ => if_neg h
theorem zu_id {s : yb_S} {id k k' : Nat} {x : Int32} : (yb_pI s id k x).1 id k' = if k' = k then x else s.1 id k' := if_pos rfl
theorem zu_eq {s : yb_S} {id k : Nat} {x : Int32} : (yb_pI s id k x).1 id k = x := by rw [zu_id, if_pos rfl]
theorem zu_neL {s : yb_S} {id k id' k' : Nat} {x : Int64} (h : id' ≠ id) : (yb_pL s id k x).2 id' k' = s.2 id' k' := if_neg h
theorem zu_idL {s : yb_S} {id k k' : Nat} {x : Int64} : (yb_pL s id k x).2 id k' = if k' = k then x else s.2 id k' := if_pos rfl
