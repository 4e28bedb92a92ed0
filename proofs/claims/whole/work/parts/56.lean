/-! a day: homes that end are emptied -/
def zEmP (p : Nat → Bool) (M : yb_S) : yb_S := (fun id k => if p k = true ∧ id = 195 then 0 else if p k = true ∧ id = 196 then -1 else M.1 id k, M.2)
theorem zEmP_c {p : Nat → Bool} {M : yb_S} {id : Nat} (h1 : id ≠ 195) (h2 : id ≠ 196) : (zEmP p M).1 id = M.1 id := funext fun k => by
  show (if p k = true ∧ id = 195 then 0 else if p k = true ∧ id = 196 then -1 else M.1 id k) = _
  rw [if_neg (fun q => h1 q.2), if_neg (fun q => h2 q.2)]
theorem zEmP_1 {p : Nat → Bool} {M : yb_S} {f : Nat} (h : p f = true) : (zEmP p M).1 195 f = 0 ∧ (zEmP p M).1 196 f = -1 := by
  constructor
  · exact if_pos ⟨h, rfl⟩
  · show (if p f = true ∧ 196 = 195 then (0 : Int32) else if p f = true ∧ 196 = 196 then -1 else M.1 196 f) = _
    rw [if_neg (fun q => absurd q.2 (by decide)), if_pos ⟨h, rfl⟩]
theorem zEmP_0 {p : Nat → Bool} {M : yb_S} {f id : Nat} (h : p f = false) : (zEmP p M).1 id f = M.1 id f := by
  show (if p f = true ∧ id = 195 then 0 else if p f = true ∧ id = 196 then -1 else M.1 id f) = _
  rw [h, if_neg (fun q => by cases q.1), if_neg (fun q => by cases q.1)]
theorem zEmP_z {p : Nat → Bool} {M : yb_S} (h : ∀ f, p f = false) : zEmP p M = M := by
  apply Prod.ext
  · funext id k
    exact zEmP_0 (h k)
  · rfl
theorem zEmP_e {p q : Nat → Bool} {M : yb_S} (h : ∀ f, p f = q f) : zEmP p M = zEmP q M := by rw [funext h]
theorem zEmP_un {p q : Nat → Bool} {M : yb_S} {f : Nat} (hf : q f = true) (ho : ∀ k, k ≠ f → q k = p k) : zUn (zEmP p M) f = zEmP q M := by
  apply Prod.ext
  · funext id k
    by_cases e : k = f
    · subst e
      by_cases e1 : id = 195
      · rw [e1, zUn_1.1, (zEmP_1 hf).1]
      · by_cases e2 : id = 196
        · rw [e2, zUn_1.2, (zEmP_1 hf).2]
        · rw [zHous_c zUn_h e1 e2, zEmP_c e1 e2, zEmP_c e1 e2]
    · rw [zUn_h.1 id k (Or.inr e)]
      cases hp : p k with
      | false => rw [zEmP_0 hp, zEmP_0 ((ho k e).trans hp)]
      | true =>
        have hq := (ho k e).trans hp
        by_cases e1 : id = 195
        · rw [e1, (zEmP_1 hp).1, (zEmP_1 hq).1]
        · by_cases e2 : id = 196
          · rw [e2, (zEmP_1 hp).2, (zEmP_1 hq).2]
          · rw [zEmP_c e1 e2, zEmP_c e1 e2]
  · rfl
/-- who leaves with the end of the home -/
def zLv (M : yb_S) (f : Nat) : Bool := decide (f < nF M) && (M.1 195 f == 1 && M.1 188 (M.1 196 f).toNatClampNeg == M.1 176 7)
theorem zLv_t {M : yb_S} {f : Nat} : zLv M f = true ↔ f < nF M ∧ M.1 195 f = 1 ∧ M.1 188 (M.1 196 f).toNatClampNeg = M.1 176 7 := by
  unfold zLv
  simp only [Bool.and_eq_true, decide_eq_true_eq, beq_iff_eq]
theorem zo_empty {M m s : yb_S} (hW : zW M) (hA : zA M m s) : zs_P (f_X8_emptyEndingHomes s) (fun u => zW (zEmP (zLv M) M) ∧ zA (zEmP (zLv M) M) m u) := by
  have h8 := zw_F8 hW
  have h9 := zw_H8 hW
  have hhome : ∀ f, zLv M f = true → ∃ h, h < nH M ∧ M.1 196 f = zi h := fun f hf => by
    rw [zLv_t] at hf
    rcases (zw_f hW hf.1).2.2.2.1 with ⟨-, h, hh, e⟩ | ⟨q, -⟩
    · exact ⟨h, hh, e⟩
    · exact absurd hf.2.1 q
  unfold f_X8_emptyEndingHomes l_X8_emptyEndingHomes_2
  have e0 : zEmP (fun f => zLv M f && decide ((M.1 196 f).toNatClampNeg < 0)) M = M := zEmP_z fun f => by simp
  refine zs_up (fun h a => a.1 = zi h ∧ zW (zEmP (fun f => zLv M f && decide ((M.1 196 f).toNatClampNeg < h)) M) ∧ zA (zEmP (fun f => zLv M f && decide ((M.1 196 f).toNatClampNeg < h)) M) m a.2) (nH M) ?_ yb_N 0 _ (Nat.zero_le _) (by unfold yb_N; omega) (by
    rw [e0]
    exact ⟨rfl, hW, hA⟩)
  rintro h ⟨x, u⟩ rc hh ⟨i1, i2, i3⟩ hn
  dsimp only at i1 i2 i3
  subst i1
  show zs_P (f_X8_emptyEndingHomes_2 (fun x1 s => rc (x1, s)) (zi h) u) _
  unfold f_X8_emptyEndingHomes_2 j_X8_emptyEndingHomes_42
  obtain ⟨n1, n2, n3⟩ := zN_fr (M := M) (N := zEmP (fun f => zLv M f && decide ((M.1 196 f).toNatClampNeg < h)) M) (zEmP_c (by decide) (by decide))
  rw [cq_H i3, zw_H i2, n2]
  rcases Nat.lt_or_ge h (nH M) with hlt | hge
  · rw [if_neg (by rw [zi_le (by omega) (by omega)]; omega), zi_rd (by omega) (by omega), Option.bind_some, cq_19 i3 (by rw [n2]; exact hlt), cq_D i3, zEmP_c (by decide) (by decide), zEmP_c (by decide) (by decide), zi_succ]
    have same : (∀ f, zLv M f = true → (M.1 196 f).toNatClampNeg ≠ h) → zEmP (fun f => zLv M f && decide ((M.1 196 f).toNatClampNeg < h + 1)) M = zEmP (fun f => zLv M f && decide ((M.1 196 f).toNatClampNeg < h)) M := fun hne => zEmP_e fun f => by
      cases hz : zLv M f with
      | false => rfl
      | true =>
        have := hne f hz
        simp only [Bool.true_and]
        exact decide_eq_decide.mpr ⟨fun q => by omega, fun q => by omega⟩
    by_cases c : M.1 188 h = M.1 176 7
    · rw [if_pos c, zi_rd (by omega) (by omega), Option.bind_some, cq_20 i3 (by rw [n2]; exact hlt)]
      rcases zLodger_cases (M := zEmP (fun f => zLv M f && decide ((M.1 196 f).toNatClampNeg < h)) M) (h := h) (by rw [n1]; exact h8) with ⟨e, hno⟩ | ⟨f, hf, e, f1, f2⟩
      · rw [e]
        have hun : f_X8_unsettle (-1) u = some u := by
          unfold f_X8_unsettle
          rw [zo_isIn0 i2 i3 (by rintro ⟨k, hk, e2⟩; rw [n1] at hk; rw [show (-1 : Int32) = zm from rfl] at e2; exact absurd e2.symm (by rw [zi_eqm (by omega)]; exact id)), Option.bind_some, if_pos rfl]
        rw [hun, Option.bind_some]
        have hs := same fun f hz ef => by
          obtain ⟨a, ha, ea⟩ := hhome f hz
          have hp : (fun f => zLv M f && decide ((M.1 196 f).toNatClampNeg < h)) f = false := by
            dsimp only
            rw [ef]
            simp
          have hz2 := zLv_t.mp hz
          refine hno f (by rw [n1]; exact hz2.1) (by rw [zEmP_0 hp]; exact hz2.2.1) ?_
          rw [zEmP_0 hp, ea]
          rw [ea, zi_tn (by omega)] at ef
          rw [ef]
        exact hn hlt _ ⟨rfl, by rw [hs]; exact i2, by rw [hs]; exact i3⟩
      · rw [e]
        have hp : (fun f => zLv M f && decide ((M.1 196 f).toNatClampNeg < h)) f = false := by
          cases hp : (fun f => zLv M f && decide ((M.1 196 f).toNatClampNeg < h)) f with
          | false => rfl
          | true =>
            rw [(zEmP_1 hp).1] at f1
            exact absurd f1 (by decide)
        rw [n1] at hf
        rw [zEmP_0 hp] at f1 f2
        have hun := zEmP_un (M := M) (p := fun f => zLv M f && decide ((M.1 196 f).toNatClampNeg < h)) (q := fun f => zLv M f && decide ((M.1 196 f).toNatClampNeg < h + 1)) (f := f) (by
          rw [Bool.and_eq_true]
          refine ⟨zLv_t.mpr ⟨hf, f1, ?_⟩, ?_⟩
          · rw [f2, zi_tn (by omega)]
            exact c
          · rw [f2, zi_tn (by omega)]
            simp) (fun k hk => by
          cases hz : zLv M k with
          | false => rfl
          | true =>
            obtain ⟨a, ha, ea⟩ := hhome k hz
            have hz2 := zLv_t.mp hz
            rw [ea, zi_tn (by omega)]
            have hne : a ≠ h := fun e2 => hk (hW.2.2.2.2.2.2.1 k f hz2.1 hf hz2.2.1 f1 (by rw [ea, f2, e2]))
            simp only [Bool.true_and]
            exact decide_eq_decide.mpr ⟨fun q => by omega, fun q => by omega⟩)
        have hfN : f < nF (zEmP (fun f => zLv M f && decide ((M.1 196 f).toNatClampNeg < h)) M) := by rw [n1]; exact hf
        refine zs_bind (zo_unsettle1 i2 i3 hfN (by rw [zEmP_0 hp]; exact f1)) fun v hv => ?_
        rw [hun] at hv
        refine hn hlt _ ⟨rfl, ?_, hv⟩
        rw [← hun]
        exact zUn_W i2 hfN
    · rw [if_neg c]
      have hs := same fun f hz ef => by
        have hz2 := zLv_t.mp hz
        rw [ef] at hz2
        exact c hz2.2.2
      exact hn hlt _ ⟨rfl, by rw [hs]; exact i2, by rw [hs]; exact i3⟩
  · have hkl := Nat.le_antisymm hh hge
    subst hkl
    rw [if_pos (Int32.le_refl _)]
    have hs : zEmP (fun f => zLv M f && decide ((M.1 196 f).toNatClampNeg < nH M)) M = zEmP (zLv M) M := zEmP_e fun f => by
      cases hz : zLv M f with
      | false => rfl
      | true =>
        obtain ⟨a, ha, ea⟩ := hhome f hz
        rw [ea, zi_tn (by omega)]
        simp [ha]
    rw [hs] at i2 i3
    exact zs_ret ⟨i2, i3⟩
theorem zm_empty {M o s : yb_S} (hW : zW M) (hQ : zQ M o s) {Q : yb_S → Prop} (K : ∀ u, zW (zEmP (zLv M) M) → zQ (zEmP (zLv M) M) o u → zs_P (l_X12_day_50 yb_N 0 u) Q) : zs_P (f_X12_day s) Q := by
  have h8 := zw_F8 hW
  have h9 := zw_H8 hW
  unfold f_X12_day l_X12_day_2
  have e0 : zEmP (fun f => zLv M f && decide (f < 0)) M = M := zEmP_z fun f => by simp
  refine zs_up (fun f a => a.1 = zi f ∧ zW (zEmP (fun g => zLv M g && decide (g < f)) M) ∧ zQ (zEmP (fun g => zLv M g && decide (g < f)) M) o a.2) (nF M) ?_ yb_N 0 _ (Nat.zero_le _) (by unfold yb_N; omega) (by
    rw [e0]
    exact ⟨rfl, hW, hQ⟩)
  rintro f ⟨x, u⟩ rc hf ⟨i1, i2, i3⟩ hn
  dsimp only at i1 i2 i3
  subst i1
  show zs_P (f_X12_day_2 (fun x1 s => rc (x1, s)) (zi f) u) _
  unfold f_X12_day_2 j_X12_day_42
  obtain ⟨n1, n2, n3⟩ := zN_fr (M := M) (N := zEmP (fun g => zLv M g && decide (g < f)) M) (zEmP_c (by decide) (by decide))
  rw [zqk i3 (by omega), zw_F i2, n1]
  rcases Nat.lt_or_ge f (nF M) with hlt | hge
  · have hp : (fun g => zLv M g && decide (g < f)) f = false := by simp
    have same : zLv M f = false → zEmP (fun g => zLv M g && decide (g < f + 1)) M = zEmP (fun g => zLv M g && decide (g < f)) M := fun hne => zEmP_e fun g => by
      cases hz : zLv M g with
      | false => rfl
      | true =>
        have : g ≠ f := fun e => by
          rw [e, hne] at hz
          cases hz
        simp only [Bool.true_and]
        exact decide_eq_decide.mpr ⟨fun q => by omega, fun q => by omega⟩
    have stay : zLv M f = false → zs_P (rc (zi f + 1, u)) Q := fun hne => by
      rw [zi_succ]
      exact hn hlt _ ⟨rfl, by rw [same hne]; exact i2, by rw [same hne]; exact i3⟩
    rw [if_neg (by rw [zi_le (by omega) (by omega)]; omega), zm_isHoused i2 i3 (by rw [n1]; exact hlt), zEmP_0 hp, Option.bind_some]
    by_cases h1 : M.1 195 f = 1
    · obtain ⟨h, hh, eh⟩ : ∃ h, h < nH M ∧ M.1 196 f = zi h := by
        rcases (zw_f hW hlt).2.2.2.1 with ⟨-, h, hh, e⟩ | ⟨q, -⟩
        · exact ⟨h, hh, e⟩
        · exact absurd h1 q
      rw [h1, if_neg (by decide), zi_rd (by omega) (by omega), Option.bind_some, zq i3 (by omega), zEmP_0 hp, eh, zi_rd (by omega) (by omega), Option.bind_some, zq i3 (by omega), zqk i3 (by omega), zEmP_c (by decide) (by decide), zEmP_c (by decide) (by decide)]
      by_cases c : M.1 188 h = M.1 176 7
      · rw [if_pos c]
        have hun := zEmP_un (M := M) (p := fun g => zLv M g && decide (g < f)) (q := fun g => zLv M g && decide (g < f + 1)) (f := f) (by
          rw [Bool.and_eq_true]
          refine ⟨zLv_t.mpr ⟨hlt, h1, ?_⟩, by simp⟩
          rw [eh, zi_tn (by omega)]
          exact c) (fun k hk => by
          congr 1
          exact decide_eq_decide.mpr ⟨fun q => by omega, fun q => by omega⟩)
        have hfN : f < nF (zEmP (fun g => zLv M g && decide (g < f)) M) := by rw [n1]; exact hlt
        refine zs_bind (zm_houseN i2 i3 hfN) fun v hv => ?_
        rw [hun] at hv
        rw [zi_succ]
        refine hn hlt _ ⟨rfl, ?_, hv⟩
        rw [← hun]
        exact zUn_W i2 hfN
      · rw [if_neg c]
        refine stay ?_
        cases hz : zLv M f with
        | false => rfl
        | true =>
          have hz2 := zLv_t.mp hz
          rw [eh, zi_tn (by omega)] at hz2
          exact absurd hz2.2.2 c
    · rw [show (M.1 195 f == 1) = false from beq_eq_false_iff_ne.mpr h1, show zb false = 0 from rfl, if_pos rfl]
      refine stay ?_
      cases hz : zLv M f with
      | false => rfl
      | true => exact absurd (zLv_t.mp hz).2.1 h1
  · have hkl := Nat.le_antisymm hf hge
    subst hkl
    rw [if_pos (Int32.le_refl _)]
    have hs : zEmP (fun g => zLv M g && decide (g < nF M)) M = zEmP (zLv M) M := zEmP_e fun g => by
      cases hz : zLv M g with
      | false => rfl
      | true =>
        have := (zLv_t.mp hz).1
        simp [this]
    rw [hs] at i2 i3
    exact K u i2 i3
