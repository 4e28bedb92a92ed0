/-! the reader of the text, pure: K tells the kinds, V the values of the tokens; a state is (no fault yet, the token, how many codes, the codes) -/
abbrev zpS : Type := Bool × Nat × Nat × (Nat → Int32 × Int32)
def zpis (K : Nat → Int32) (c : Int32) (x : zpS) : Bool := x.1 && K x.2.1 == c
def zpnx (x : zpS) : zpS := (x.1, x.2.1 + 1, x.2.2)
def zpfl (x : zpS) : zpS := (false, x.2)
def zpt (op v : Int32) (x : zpS) : zpS := cond x.1 (true, x.2.1, x.2.2.1 + 1, fun k => if k = x.2.2.1 then (op, v) else x.2.2.2 k) x
def zpps (K : Nat → Int32) (c : Int32) (x : zpS) : zpS := cond (zpis K c x) (zpnx x) (zpfl x)
def zpop (k : Int32) : Int32 := if k = 4 then 38 else if k = 5 then 124 else k
def zplp (K : Nat → Int32) (c1 c2 : Int32) (p : zpS → zpS) : Nat → zpS → zpS
  | 0, x => x
  | f + 1, x => cond (zpis K c1 x || zpis K c2 x) (zplp K c1 c2 p f (zpt (zpop (K x.2.1)) 0 (p (zpnx x)))) x
def zppr (K : Nat → Int32) (F : zpS → zpS) (x : zpS) : zpS := zplp K 42 47 F 501 (F x)
def zpsm (K : Nat → Int32) (F : zpS → zpS) (x : zpS) : zpS := zplp K 43 45 (zppr K F) 501 (zppr K F x)
def zpea (K : Nat → Int32) (P : zpS → zpS) (x : zpS) : zpS := zplp K 4 4 P 501 (P x)
def zpan (K : Nat → Int32) (P : zpS → zpS) (x : zpS) : zpS := zplp K 5 5 (zpea K P) 501 (zpea K P x)
def zpfc (K V : Nat → Int32) : Nat → zpS → zpS
  | 0, x => cond (zpis K 1 x) (zpt 110 (V x.2.1) (zpnx x)) (cond (zpis K 2 x) (zpt 118 (V x.2.1) (zpnx x)) (zpfl x))
  | L + 1, x => cond (zpis K 1 x) (zpt 110 (V x.2.1) (zpnx x)) (cond (zpis K 2 x) (zpt 118 (V x.2.1) (zpnx x)) (cond (zpis K 40 x) (zpps K 41 (zpsm K (zpfc K V L) (zpnx x))) (zpfl x)))
def zpsg (K : Nat → Int32) (x : zpS) : Int32 := cond (zpis K 60 x) 60 (cond (zpis K 62 x) 62 61)
def zpcm (K : Nat → Int32) (F : zpS → zpS) (x : zpS) : zpS := zpt (zpsg K (zpsm K F x)) 0 (zpsm K F (zpps K (zpsg K (zpsm K F x)) (zpsm K F x)))
def zptt (K V : Nat → Int32) : Nat → zpS → zpS
  | 0, x => cond (zpis K 6 x) (zpfl x) (cond (zpis K 91 x) (zpfl x) (zpcm K (zpfc K V 0) x))
  | L + 1, x => cond (zpis K 6 x) (zpt 33 0 (zptt K V L (zpnx x))) (cond (zpis K 91 x) (zpps K 93 (zpan K (zptt K V L) (zpnx x))) (zpcm K (zpfc K V (L + 1)) x))
/-! behind a fault nothing changes -/
def zPI (p : zpS → zpS) : Prop := ∀ x : zpS, x.1 = false → p x = x
theorem zpis_f {K : Nat → Int32} {c : Int32} {x : zpS} (h : x.1 = false) : zpis K c x = false := by
  unfold zpis
  rw [h]
  rfl
theorem zpis_t {K : Nat → Int32} {c : Int32} {x : zpS} (h : zpis K c x = true) : x.1 = true ∧ K x.2.1 = c := by
  unfold zpis at h
  rw [Bool.and_eq_true] at h
  exact ⟨h.1, eq_of_beq h.2⟩
theorem zpis_e {K : Nat → Int32} {c : Int32} {x : zpS} (h : x.1 = true) : zpis K c x = (K x.2.1 == c) := by
  unfold zpis
  rw [h]
  rfl
theorem zpfl_i {x : zpS} (h : x.1 = false) : zpfl x = x := by
  obtain ⟨a, b⟩ := x
  dsimp only at h
  rw [h]
  rfl
theorem zpt_i {op v : Int32} {x : zpS} (h : x.1 = false) : zpt op v x = x := by
  unfold zpt
  rw [h]
  rfl
theorem zpps_i {K : Nat → Int32} {c : Int32} {x : zpS} (h : x.1 = false) : zpps K c x = x := by
  unfold zpps
  rw [zpis_f h]
  exact zpfl_i h
theorem zplp_i {K : Nat → Int32} {c1 c2 : Int32} {p : zpS → zpS} {f : Nat} {x : zpS} (h : x.1 = false) : zplp K c1 c2 p f x = x := by
  cases f with
  | zero => rfl
  | succ f =>
    unfold zplp
    rw [zpis_f h, zpis_f h]
    rfl
theorem zppr_i {K : Nat → Int32} {F : zpS → zpS} (h : zPI F) : zPI (zppr K F) := fun x hx => by
  unfold zppr
  rw [h x hx, zplp_i hx]
theorem zpsm_i {K : Nat → Int32} {F : zpS → zpS} (h : zPI F) : zPI (zpsm K F) := fun x hx => by
  unfold zpsm
  rw [zppr_i h x hx, zplp_i hx]
theorem zpea_i {K : Nat → Int32} {F : zpS → zpS} (h : zPI F) : zPI (zpea K F) := fun x hx => by
  unfold zpea
  rw [h x hx, zplp_i hx]
theorem zpan_i {K : Nat → Int32} {F : zpS → zpS} (h : zPI F) : zPI (zpan K F) := fun x hx => by
  unfold zpan
  rw [zpea_i h x hx, zplp_i hx]
theorem zpfc_i {K V : Nat → Int32} {L : Nat} : zPI (zpfc K V L) := fun x hx => by
  cases L <;> unfold zpfc <;> simp only [zpis_f hx, cond_false] <;> exact zpfl_i hx
theorem zpcm_i {K : Nat → Int32} {F : zpS → zpS} (h : zPI F) : zPI (zpcm K F) := fun x hx => by
  unfold zpcm
  rw [zpsm_i h x hx, zpps_i hx, zpsm_i h x hx, zpt_i hx]
theorem zptt_i {K V : Nat → Int32} {L : Nat} : zPI (zptt K V L) := fun x hx => by
  cases L <;> unfold zptt <;> simp only [zpis_f hx, cond_false] <;> exact zpcm_i zpfc_i x hx
/-! the token never goes back -/
def zPM (p : zpS → zpS) : Prop := ∀ x : zpS, x.2.1 ≤ (p x).2.1
theorem zpt_m {op v : Int32} {x : zpS} : (zpt op v x).2.1 = x.2.1 := by
  unfold zpt
  cases x.1 <;> rfl
theorem zpt_1 {op v : Int32} {x : zpS} : (zpt op v x).1 = x.1 := by
  unfold zpt
  cases h : x.1
  · exact h
  · rfl
theorem zpps_m {K : Nat → Int32} {c : Int32} {x : zpS} : x.2.1 ≤ (zpps K c x).2.1 := by
  unfold zpps
  cases zpis K c x
  · exact Nat.le_refl _
  · exact Nat.le_succ _
theorem zplp_m {K : Nat → Int32} {c1 c2 : Int32} {p : zpS → zpS} (h : zPM p) : ∀ {f : Nat} {x : zpS}, x.2.1 ≤ (zplp K c1 c2 p f x).2.1
  | 0, x => Nat.le_refl _
  | f + 1, x => by
    unfold zplp
    cases (zpis K c1 x || zpis K c2 x)
    · exact Nat.le_refl _
    · refine Nat.le_trans ?_ (zplp_m h (f := f))
      rw [zpt_m]
      exact Nat.le_trans (Nat.le_succ _) (h (zpnx x))
theorem zppr_m {K : Nat → Int32} {F : zpS → zpS} (h : zPM F) : zPM (zppr K F) := fun x => Nat.le_trans (h x) (zplp_m h)
theorem zpsm_m {K : Nat → Int32} {F : zpS → zpS} (h : zPM F) : zPM (zpsm K F) := fun x => Nat.le_trans (zppr_m h x) (zplp_m (zppr_m h))
theorem zpea_m {K : Nat → Int32} {F : zpS → zpS} (h : zPM F) : zPM (zpea K F) := fun x => Nat.le_trans (h x) (zplp_m h)
theorem zpan_m {K : Nat → Int32} {F : zpS → zpS} (h : zPM F) : zPM (zpan K F) := fun x => Nat.le_trans (zpea_m h x) (zplp_m (zpea_m h))
theorem zpfc_m {K V : Nat → Int32} : ∀ {L : Nat}, zPM (zpfc K V L)
  | 0 => fun x => by
    unfold zpfc
    cases zpis K 1 x
    · cases zpis K 2 x
      · exact Nat.le_refl _
      · simp only [cond_true, cond_false, zpt_m]
        exact Nat.le_succ _
    · simp only [cond_true, zpt_m]
      exact Nat.le_succ _
  | L + 1 => fun x => by
    unfold zpfc
    cases zpis K 1 x
    · cases zpis K 2 x
      · cases zpis K 40 x
        · exact Nat.le_refl _
        · simp only [cond_true, cond_false]
          exact Nat.le_trans (Nat.le_trans (Nat.le_succ _) (zpsm_m (zpfc_m (L := L)) (zpnx x))) zpps_m
      · simp only [cond_true, cond_false, zpt_m]
        exact Nat.le_succ _
    · simp only [cond_true, zpt_m]
      exact Nat.le_succ _
theorem zpcm_m {K : Nat → Int32} {F : zpS → zpS} (h : zPM F) : zPM (zpcm K F) := fun x => by
  unfold zpcm
  rw [zpt_m]
  exact Nat.le_trans (Nat.le_trans (zpsm_m h x) zpps_m) (zpsm_m h _)
theorem zptt_m {K V : Nat → Int32} : ∀ {L : Nat}, zPM (zptt K V L)
  | 0 => fun x => by
    unfold zptt
    cases zpis K 6 x
    · cases zpis K 91 x
      · exact zpcm_m zpfc_m x
      · exact Nat.le_refl _
    · exact Nat.le_refl _
  | L + 1 => fun x => by
    unfold zptt
    cases zpis K 6 x
    · cases zpis K 91 x
      · exact zpcm_m zpfc_m x
      · simp only [cond_true, cond_false]
        exact Nat.le_trans (Nat.le_trans (Nat.le_succ _) (zpan_m (zptt_m (L := L)) (zpnx x))) zpps_m
    · simp only [cond_true, zpt_m]
      exact Nat.le_trans (Nat.le_succ _) (zptt_m (L := L) (zpnx x))
/-! room for the codes, and how deep they go -/
def zpst (x : Int32 × Int32) (a a' : Nat) : Prop := (x.1 = 110 ∧ (∃ v, v < 100000 ∧ x.2 = zi v) ∧ a' = a + 1) ∨ (x.1 = 118 ∧ (∃ v, v < 18 ∧ x.2 = zi v) ∧ a' = a + 1) ∨ (x.1 = 33 ∧ 1 ≤ a ∧ a' = a) ∨ (zbin x.1 ∧ 2 ≤ a ∧ a' + 1 = a)
def zpdp (n : Nat) (g : Nat → Int32 × Int32) (D : Nat) : Prop := ∃ dep : Nat → Nat, dep 0 = 0 ∧ dep n = D ∧ (∀ k, k ≤ n → dep k ≤ 60) ∧ ∀ k, k < n → zpst (g k) (dep k) (dep (k + 1))
theorem zpdp_0 {g : Nat → Int32 × Int32} : zpdp 0 g 0 := ⟨fun _ => 0, rfl, rfl, fun _ _ => Nat.zero_le _, fun _ hk => absurd hk (Nat.not_lt_zero _)⟩
theorem zpdp_s {n : Nat} {g : Nat → Int32 × Int32} {D D' : Nat} {x : Int32 × Int32} (h : zpdp n g D) (hx : zpst x D D') (h6 : D' ≤ 60) : zpdp (n + 1) (fun k => if k = n then x else g k) D' := by
  obtain ⟨dep, h1, h2, h3, h4⟩ := h
  refine ⟨fun k => if k = n + 1 then D' else dep k, ?_, if_pos rfl, fun k hk => ?_, fun k hk => ?_⟩
  · dsimp only
    rw [if_neg (by omega)]
    exact h1
  · dsimp only
    by_cases e : k = n + 1
    · rw [if_pos e]
      exact h6
    · rw [if_neg e]
      exact h3 k (by omega)
  · dsimp only
    rw [if_neg (show ¬ k = n + 1 by omega)]
    by_cases e : k = n
    · rw [if_pos e, if_pos (by omega), e, h2]
      exact hx
    · rw [if_neg e, if_neg (by omega)]
      exact h4 k (by omega)
/-- the tokens are well formed -/
def zpW (K V : Nat → Int32) (m : Nat) : Prop := m ≤ 500 ∧ K m = 0 ∧ (∀ i, i < m → K i ≠ 0) ∧ ∀ i, i < m → (K i = 1 → ∃ v, v < 100000 ∧ V i = zi v) ∧ (K i = 2 → ∃ v, v < 18 ∧ V i = zi v) ∧ (K i = 3 → ∃ v, v < 6 ∧ V i = zi v)
def zpG (m b : Nat) (x : zpS) (D c : Nat) : Prop := x.2.1 ≤ m ∧ (x.1 = true → b + x.2.2.1 + c ≤ x.2.1 ∧ zpdp x.2.2.1 x.2.2.2 D)
theorem zpis_lt {K V : Nat → Int32} {m : Nat} (hW : zpW K V m) {c : Int32} {x : zpS} (hi : x.2.1 ≤ m) (hc : c ≠ 0) (h : zpis K c x = true) : x.2.1 < m := by
  rcases Nat.lt_or_ge x.2.1 m with q | q
  · exact q
  · have e := Nat.le_antisymm hi q
    have := (zpis_t h).2
    rw [e, hW.2.1] at this
    exact absurd this.symm hc
theorem zpG_nx {K V : Nat → Int32} {m b : Nat} (hW : zpW K V m) {c : Int32} {x : zpS} {D r : Nat} (h : zpG m b x D r) (hc : c ≠ 0) (hi : zpis K c x = true) : zpG m b (zpnx x) D (r + 1) := by
  have := zpis_lt hW h.1 hc hi
  refine ⟨this, fun q => ⟨?_, (h.2 q).2⟩⟩
  have := (h.2 q).1
  show b + x.2.2.1 + (r + 1) ≤ x.2.1 + 1
  omega
theorem zpG_fl {m b : Nat} {x : zpS} {D r D' r' : Nat} (h : zpG m b x D r) : zpG m b (zpfl x) D' r' := ⟨h.1, fun q => by cases q⟩
theorem zpG_w {m b : Nat} {x : zpS} {D r r' : Nat} (h : zpG m b x D r) (hr : r' ≤ r) : zpG m b x D r' := ⟨h.1, fun q => ⟨by have := (h.2 q).1; omega, (h.2 q).2⟩⟩
theorem zpG_t {m b : Nat} {x : zpS} {D D' r : Nat} {op v : Int32} (h : zpG m b x D (r + 1)) (hx : x.1 = true → zpst (op, v) D D') (h6 : D' ≤ 60) : zpG m b (zpt op v x) D' r := by
  obtain ⟨a, i, n, g⟩ := x
  cases a
  · exact ⟨h.1, fun q => by cases q⟩
  · refine ⟨h.1, fun _ => ⟨?_, zpdp_s (h.2 rfl).2 (hx rfl) h6⟩⟩
    have := (h.2 rfl).1
    show b + (n + 1) + r ≤ i
    dsimp only at this
    omega
theorem zpG_ps {K V : Nat → Int32} {m b : Nat} (hW : zpW K V m) {c : Int32} {x : zpS} {D r : Nat} (h : zpG m b x D r) (hc : c ≠ 0) : zpG m b (zpps K c x) D (r + 1) := by
  unfold zpps
  cases hi : zpis K c x
  · exact zpG_fl h
  · exact zpG_nx hW h hc hi
def zPG (m b : Nat) (p : zpS → zpS) (need : Nat) : Prop := ∀ x D r, zpG m b x D r → D + need ≤ 60 → zpG m b (p x) (D + 1) r
theorem zbin_op {K : Nat → Int32} {x : zpS} {c1 c2 : Int32} (h1 : zbin (zpop c1)) (h2 : zbin (zpop c2)) (h : (zpis K c1 x || zpis K c2 x) = true) : x.1 = true ∧ zbin (zpop (K x.2.1)) ∧ (K x.2.1 = c1 ∨ K x.2.1 = c2) := by
  rw [Bool.or_eq_true] at h
  rcases h with h | h
  · have := zpis_t h
    exact ⟨this.1, by rw [this.2]; exact h1, Or.inl this.2⟩
  · have := zpis_t h
    exact ⟨this.1, by rw [this.2]; exact h2, Or.inr this.2⟩
theorem zpG_nx2 {K V : Nat → Int32} {m b : Nat} (hW : zpW K V m) {c1 c2 : Int32} {x : zpS} {D r : Nat} (h : zpG m b x D r) (h1 : c1 ≠ 0) (h2 : c2 ≠ 0) (hi : (zpis K c1 x || zpis K c2 x) = true) : zpG m b (zpnx x) D (r + 1) := by
  rw [Bool.or_eq_true] at hi
  rcases hi with hi | hi
  · exact zpG_nx hW h h1 hi
  · exact zpG_nx hW h h2 hi
theorem zpG_lp {K V : Nat → Int32} {m b : Nat} (hW : zpW K V m) {c1 c2 : Int32} {p : zpS → zpS} {need : Nat} (hp : zPG m b p need) (h1 : c1 ≠ 0) (h2 : c2 ≠ 0) (b1 : zbin (zpop c1)) (b2 : zbin (zpop c2)) : ∀ {f : Nat} {x : zpS} {D r : Nat}, zpG m b x D r → 1 ≤ D → D + need ≤ 60 → zpG m b (zplp K c1 c2 p f x) D r
  | 0, x, D, r, h, _, _ => h
  | f + 1, x, D, r, h, hD, hn => by
    unfold zplp
    cases hi : (zpis K c1 x || zpis K c2 x)
    · exact h
    · have g1 := zpG_nx2 hW h h1 h2 hi
      have g2 := hp (zpnx x) D (r + 1) g1 hn
      refine zpG_lp hW hp h1 h2 b1 b2 (f := f) (zpG_t g2 (fun _ => ?_) (by omega)) hD hn
      exact Or.inr (Or.inr (Or.inr ⟨(zbin_op b1 b2 hi).2.1, by omega, rfl⟩))
theorem zbin_42 : zbin (zpop 42) ∧ zbin (zpop 47) ∧ zbin (zpop 43) ∧ zbin (zpop 45) ∧ zbin (zpop 4) ∧ zbin (zpop 5) := by
  unfold zbin
  decide
theorem zppr_g {K V : Nat → Int32} {m b : Nat} (hW : zpW K V m) {F : zpS → zpS} {need : Nat} (h : zPG m b F need) : zPG m b (zppr K F) (need + 1) := fun x D r hx hn =>
  zpG_lp hW h (by decide) (by decide) zbin_42.1 zbin_42.2.1 (h x D r hx (by omega)) (by omega) (by omega)
theorem zpsm_g {K V : Nat → Int32} {m b : Nat} (hW : zpW K V m) {F : zpS → zpS} {need : Nat} (h : zPG m b F need) : zPG m b (zpsm K F) (need + 2) := fun x D r hx hn =>
  zpG_lp hW (zppr_g hW h) (by decide) (by decide) zbin_42.2.2.1 zbin_42.2.2.2.1 (zppr_g hW h x D r hx (by omega)) (by omega) (by omega)
theorem zpea_g {K V : Nat → Int32} {m b : Nat} (hW : zpW K V m) {F : zpS → zpS} {need : Nat} (h : zPG m b F need) : zPG m b (zpea K F) (need + 1) := fun x D r hx hn =>
  zpG_lp hW h (by decide) (by decide) zbin_42.2.2.2.2.1 zbin_42.2.2.2.2.1 (h x D r hx (by omega)) (by omega) (by omega)
theorem zpan_g {K V : Nat → Int32} {m b : Nat} (hW : zpW K V m) {F : zpS → zpS} {need : Nat} (h : zPG m b F need) : zPG m b (zpan K F) (need + 2) := fun x D r hx hn =>
  zpG_lp hW (zpea_g hW h) (by decide) (by decide) zbin_42.2.2.2.2.2 zbin_42.2.2.2.2.2 (zpea_g hW h x D r hx (by omega)) (by omega) (by omega)
theorem zpG_fc {K V : Nat → Int32} {m b : Nat} (hW : zpW K V m) {x : zpS} {D r : Nat} (h : zpG m b x D r) (h6 : D + 1 ≤ 60) {c op : Int32} (hc : (c = 1 ∧ op = 110) ∨ (c = 2 ∧ op = 118)) (hi : zpis K c x = true) : zpG m b (zpt op (V x.2.1) (zpnx x)) (D + 1) r := by
  have hc0 : c ≠ 0 := by rcases hc with ⟨e, -⟩ | ⟨e, -⟩ <;> rw [e] <;> decide
  have hlt := zpis_lt hW h.1 hc0 hi
  refine zpG_t (zpG_nx hW h hc0 hi) (fun _ => ?_) h6
  have e := (zpis_t hi).2
  rcases hc with ⟨e1, e2⟩ | ⟨e1, e2⟩
  · exact Or.inl ⟨e2, (hW.2.2.2 _ hlt).1 (e.trans e1), rfl⟩
  · exact Or.inr (Or.inl ⟨e2, (hW.2.2.2 _ hlt).2.1 (e.trans e1), rfl⟩)
theorem zpfc_g {K V : Nat → Int32} {m b : Nat} (hW : zpW K V m) : ∀ {L : Nat}, zPG m b (zpfc K V L) (2 * L + 1)
  | 0 => fun x D r hx hn => by
    unfold zpfc
    cases h1 : zpis K 1 x
    · cases h2 : zpis K 2 x
      · exact zpG_fl hx
      · exact zpG_fc hW hx (by omega) (Or.inr ⟨rfl, rfl⟩) h2
    · exact zpG_fc hW hx (by omega) (Or.inl ⟨rfl, rfl⟩) h1
  | L + 1 => fun x D r hx hn => by
    unfold zpfc
    cases h1 : zpis K 1 x
    · cases h2 : zpis K 2 x
      · cases h3 : zpis K 40 x
        · exact zpG_fl hx
        · have g1 := zpG_nx hW hx (by decide) h3
          have g2 := zpsm_g hW (zpfc_g hW (L := L)) (zpnx x) D (r + 1) g1 (by omega)
          exact zpG_w (zpG_ps hW g2 (by decide)) (by omega)
      · exact zpG_fc hW hx (by omega) (Or.inr ⟨rfl, rfl⟩) h2
    · exact zpG_fc hW hx (by omega) (Or.inl ⟨rfl, rfl⟩) h1
theorem zpsg_b {K : Nat → Int32} {x : zpS} : zbin (zpsg K x) ∧ zpsg K x ≠ 0 := by
  unfold zpsg zbin
  cases zpis K 60 x <;> cases zpis K 62 x <;> decide
theorem zpcm_g {K V : Nat → Int32} {m b : Nat} (hW : zpW K V m) {F : zpS → zpS} {need : Nat} (h : zPG m b F need) : zPG m b (zpcm K F) (need + 3) := fun x D r hx hn => by
  have g1 := zpsm_g hW h x D r hx (by omega)
  have g2 := zpG_ps hW g1 (zpsg_b (K := K) (x := zpsm K F x)).2
  have g3 := zpsm_g hW h _ (D + 1) (r + 1) g2 (by omega)
  refine zpG_t g3 (fun _ => ?_) (by omega)
  exact Or.inr (Or.inr (Or.inr ⟨zpsg_b.1, by omega, rfl⟩))
theorem zptt_g {K V : Nat → Int32} {m b : Nat} (hW : zpW K V m) : ∀ {L : Nat}, zPG m b (zptt K V L) (2 * L + 4)
  | 0 => fun x D r hx hn => by
    unfold zptt
    cases h1 : zpis K 6 x
    · cases h2 : zpis K 91 x
      · exact zpcm_g hW (zpfc_g hW) x D r hx (by omega)
      · exact zpG_fl hx
    · exact zpG_fl hx
  | L + 1 => fun x D r hx hn => by
    unfold zptt
    cases h1 : zpis K 6 x
    · cases h2 : zpis K 91 x
      · exact zpcm_g hW (zpfc_g hW) x D r hx (by omega)
      · have g1 := zpG_nx hW hx (by decide) h2
        have g2 := zpan_g hW (zptt_g hW (L := L)) (zpnx x) D (r + 1) g1 (by omega)
        exact zpG_w (zpG_ps hW g2 (by decide)) (by omega)
    · have g1 := zpG_nx hW hx (by decide) h1
      have g2 := zptt_g hW (L := L) (zpnx x) D (r + 1) g1 (by omega)
      exact zpG_t g2 (fun _ => Or.inr (Or.inr (Or.inl ⟨rfl, by omega, rfl⟩))) (by omega)
