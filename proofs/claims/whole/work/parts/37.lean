/-! moving in and out: what it does to the sums -/
theorem zsum_upd {g g' : Nat → Int32} {f : Nat} : ∀ {n : Nat}, f < n → (∀ k, k < n → k ≠ f → g' k = g k) → zsum g' n = zsum g n - g f + g' f
  | n + 1, hf, h => by
    rw [zsum_succ, zsum_succ]
    by_cases e : f = n
    · subst e
      rw [zsum_congr (g := g') (g' := g) (fun k hk => h k (by omega) (by omega))]
      generalize zsum g f = a
      generalize g f = b
      generalize g' f = c
      grind
    · rw [zsum_upd (n := n) (by omega) (fun k hk hkf => h k (by omega) hkf), h n (by omega) (Ne.symm e)]
      generalize zsum g n = a
      generalize g f = b
      generalize g' f = c
      generalize g n = d
      grind
theorem zi_bit {a i : Nat} (hi : i < 32) : (zi a).toBitVec.getLsbD i = a.testBit i := by
  show (BitVec.ofNat 32 a).getLsbD i = _
  rw [BitVec.getLsbD_ofNat, decide_eq_true hi, Bool.true_and]
theorem zbits_set {p p' : Nat → Bool} {f n : Nat} (hn : n ≤ 31) (hf : f < n) (h : ∀ k, k < n → p' k = (p k || k == f)) : zbits p' n = zbits p n ||| ((1 : Int32) <<< (zi f &&& 31)) := by
  rw [zbits_one hn hf, zbits_or hn]
  exact zbits_congr h
theorem zbits_clr {p p' : Nat → Bool} {f n : Nat} (hn : n ≤ 31) (hf : f < n) (h : ∀ k, k < n → p' k = (p k && !(k == f))) : zbits p' n = zbits p n &&& (((1 : Int32) <<< (zi f &&& 31)) ^^^ (-1 : Int32)) := by
  rw [zbits_nat hn, zbits_nat hn, zi_one_shl f (by omega)]
  apply Int32.toBitVec_inj.mp
  apply BitVec.eq_of_getLsbD_eq
  intro i hi
  rw [Int32.toBitVec_and, BitVec.getLsbD_and, Int32.toBitVec_xor, BitVec.getLsbD_xor, zi_bit hi, zi_bit hi, zi_bit hi, zNb_bit, zNb_bit, Nat.testBit_two_pow, show (-1 : Int32).toBitVec = BitVec.allOnes 32 from by decide, BitVec.getLsbD_allOnes, decide_eq_true hi]
  by_cases h1 : i < n
  · rw [h i h1, decide_eq_true h1]
    by_cases h2 : f = i
    · subst h2
      simp
    · have h3 : ¬ i = f := fun q => h2 q.symm
      simp [h2, h3]
  · simp [h1]
def zHs (M : yb_S) (f h : Nat) : yb_S := yb_pI (yb_pI M 195 f 1) 196 f (zi h)
def zUn (M : yb_S) (f : Nat) : yb_S := yb_pI (yb_pI M 195 f 0) 196 f (-1)
theorem zUn_0 {M : yb_S} {f : Nat} (h1 : M.1 195 f = 0) (h2 : M.1 196 f = -1) : zUn M f = M := by
  apply Prod.ext
  · funext a b
    show (yb_pI (yb_pI M 195 f 0) 196 f (-1)).1 a b = _
    rw [zu_rd, zu_rd]
    by_cases e : a = 196
    · subst e
      by_cases e2 : b = f
      · subst e2
        simp [h2]
      · simp [e2]
    · by_cases e1 : a = 195
      · subst e1
        by_cases e2 : b = f
        · subst e2
          simp [h1]
        · simp [e2]
      · simp [e, e1]
  · rfl
/-- M' is M but for the housing of f -/
def zHous (M M' : yb_S) (f : Nat) : Prop := (∀ id k, (id ≠ 195 ∧ id ≠ 196) ∨ k ≠ f → M'.1 id k = M.1 id k) ∧ M'.2 = M.2
theorem zHs_h {M : yb_S} {f h : Nat} : zHous M (zHs M f h) f := ⟨fun id k q => by
  unfold zHs
  rw [zu_rd, zu_rd]
  repeat' split
  all_goals first | rfl | (exfalso; omega), rfl⟩
theorem zUn_h {M : yb_S} {f : Nat} : zHous M (zUn M f) f := ⟨fun id k q => by
  unfold zUn
  rw [zu_rd, zu_rd]
  repeat' split
  all_goals first | rfl | (exfalso; omega), rfl⟩
theorem zHs_1 {M : yb_S} {f h : Nat} : (zHs M f h).1 195 f = 1 ∧ (zHs M f h).1 196 f = zi h := by
  unfold zHs
  constructor
  · rw [zu_ne (by decide), zu_eq]
  · rw [zu_eq]
theorem zUn_1 {M : yb_S} {f : Nat} : (zUn M f).1 195 f = 0 ∧ (zUn M f).1 196 f = -1 := by
  unfold zUn
  constructor
  · rw [zu_ne (by decide), zu_eq]
  · rw [zu_eq]
theorem zHous_c {M M' : yb_S} {f : Nat} (h : zHous M M' f) {id : Nat} (h1 : id ≠ 195) (h2 : id ≠ 196) : M'.1 id = M.1 id := funext fun k => h.1 id k (Or.inl ⟨h1, h2⟩)
/-- the picture stays good: f is housed in h or not (and nobody else is in h) -/
theorem zW_hous {M M' : yb_S} {f : Nat} (hW : zW M) (hH : zHous M M' f) (hs : M'.1 195 f = 0 ∨ M'.1 195 f = 1 ∨ M'.1 195 f = 2) (hh : (M'.1 195 f = 1 ∧ ∃ h, h < nH M ∧ M'.1 196 f = zi h ∧ ∀ g, g < nF M → g ≠ f → M.1 195 g = 1 → M.1 196 g ≠ zi h) ∨ (M'.1 195 f ≠ 1 ∧ M'.1 196 f = -1)) : zW M' := by
  obtain ⟨w1, w2, w3, w4, w5, w6, w7, w8, w9, w10, w11, w12, w13, w14⟩ := hW
  have c : ∀ {id}, id ≠ 195 → id ≠ 196 → M'.1 id = M.1 id := fun h1 h2 => zHous_c hH h1 h2
  refine ⟨?_, ?_, ?_, ?_, ?_, ?_, ?_, ?_, ?_, ?_, ?_, ?_, ?_, ?_⟩
  · have q := w1
    simp (disch := omega) only [zW1, nT, nH, nF, nR, nK, c] at q ⊢
    exact q
  · have q := w2
    simp (disch := omega) only [zW2, nX, nS, nD, nB, nG, c] at q ⊢
    exact q
  · have q := w3
    simp (disch := omega) only [zWt, nT, c] at q ⊢
    exact q
  · have q := w4
    simp (disch := omega) only [zWh, nT, nH, c] at q ⊢
    exact q
  · intro g hg
    have hg : g < nF M := by
      unfold nF at hg ⊢
      rwa [c (by decide) (by decide)] at hg
    have q := w5 g hg
    simp (disch := omega) only [nH, nT, nD, c] at q ⊢
    by_cases e : g = f
    · subst e
      refine ⟨q.1, q.2.1, hs, ?_, q.2.2.2.2⟩
      rcases hh with ⟨a, h, b1, b2, -⟩ | b
      · exact Or.inl ⟨a, h, b1, b2⟩
      · exact Or.inr b
    · rw [hH.1 195 g (Or.inr e), hH.1 196 g (Or.inr e)]
      exact q
  · have q := w6
    simp (disch := omega) only [zWn, nF, nT, c, hH.2] at q ⊢
    exact q
  · intro a b ha hb h1 h2 h3
    have e27 : nF M' = nF M := by
      unfold nF
      rw [c (by decide) (by decide)]
    rw [e27] at ha hb
    by_cases ea : a = f
    · by_cases eb : b = f
      · rw [ea, eb]
      · subst ea
        rw [hH.1 195 b (Or.inr eb)] at h2
        rw [hH.1 196 b (Or.inr eb)] at h3
        rcases hh with ⟨q1, h, q2, q3, q4⟩ | ⟨q1, q2⟩
        · exact absurd (h3.symm.trans q3) (q4 b hb eb h2)
        · exact absurd h1 q1
    · rw [hH.1 195 a (Or.inr ea)] at h1
      rw [hH.1 196 a (Or.inr ea)] at h3
      by_cases eb : b = f
      · subst eb
        rcases hh with ⟨q1, h, q2, q3, q4⟩ | ⟨q1, q2⟩
        · exact absurd (h3.trans q3) (q4 a ha ea h1)
        · exact absurd h2 q1
      · rw [hH.1 195 b (Or.inr eb)] at h2
        rw [hH.1 196 b (Or.inr eb)] at h3
        exact w7 a b ha hb h1 h2 h3
  · have q := w8
    simp (disch := omega) only [zWa, c] at q ⊢
    exact q
  · have q := w9
    simp (disch := omega) only [zWr, nR, nF, nK, c] at q ⊢
    exact q
  · have q := w10
    simp (disch := omega) only [zWx, nX, c] at q ⊢
    exact q
  · have q := w11
    simp (disch := omega) only [zWs, nS, c] at q ⊢
    exact q
  · have q := w12
    simp (disch := omega) only [zWb, nD, nF, zDayH, c, hH.2] at q ⊢
    exact q
  · have q := w13
    simp (disch := omega) only [zWp, c] at q ⊢
    exact q
  · have q := w14
    simp (disch := omega) only [zWg, nB, nG, c] at q ⊢
    exact q
/-- what of the relation the housing doesn't touch -/
theorem zR_hous {o o' M M' : yb_S} {f : Nat} (hR : zR o M) (hH : zHous M M' f) (ho : ∀ id, id ≠ 9 → id ≠ 10 → id ≠ 11 → id ≠ 20 → id ≠ 28 → id ≠ 29 → id ≠ 30 → o'.1 id = o.1 id) (ho2 : o'.2 = o.2) (h28 : ∀ k, o'.1 28 k = if k = f then M'.1 195 f else o.1 28 k) (h29 : ∀ k, o'.1 29 k = if k = f then M'.1 196 f else o.1 29 k) (hC : zRc o' M') (hT : zThere M' = zThere M) : zR o' M' := by
  obtain ⟨r1, r2, r3, r4, r5, r6, r7, r8, r9, r10, r11, r12, r13⟩ := hR
  have c : ∀ {id}, id ≠ 195 → id ≠ 196 → M'.1 id = M.1 id := fun h1 h2 => zHous_c hH h1 h2
  have d : ∀ {id}, (id ≠ 9 ∧ id ≠ 10 ∧ id ≠ 11 ∧ id ≠ 20 ∧ id ≠ 28 ∧ id ≠ 29 ∧ id ≠ 30) → o'.1 id = o.1 id := fun h => ho _ h.1 h.2.1 h.2.2.1 h.2.2.2.1 h.2.2.2.2.1 h.2.2.2.2.2.1 h.2.2.2.2.2.2
  refine ⟨?_, hC, ?_, ?_, ?_, ?_, ?_, ?_, ?_, ?_, ?_, ?_, ?_⟩
  · have q := r1
    simp (disch := omega) only [zRt, nT, c, d, hH.2, ho2] at q ⊢
    exact q
  · have q := r3
    simp (disch := omega) only [zRh, nH, c, d] at q ⊢
    exact q
  · refine ⟨by rw [d (by omega), c (by decide) (by decide)]; exact r4.1, fun k hk => ?_⟩
    have hk : k < nF M := by
      unfold nF at hk ⊢
      rwa [c (by decide) (by decide)] at hk
    have q := r4.2 k hk
    simp (disch := omega) only [c, d]
    rw [h28, h29]
    by_cases e : k = f
    · subst e
      rw [if_pos rfl, if_pos rfl]
      exact ⟨q.1, q.2.1, q.2.2.1, q.2.2.2.1, q.2.2.2.2.1, q.2.2.2.2.2.1, rfl, rfl, q.2.2.2.2.2.2.2.2⟩
    · rw [if_neg e, if_neg e, hH.1 195 k (Or.inr e), hH.1 196 k (Or.inr e)]
      exact q
  · have q := r5
    simp (disch := omega) only [zRa, c, d] at q ⊢
    exact q
  · have q := r6
    simp (disch := omega) only [zRr, nR, nK, c, d] at q ⊢
    exact q
  · have q := r7
    simp (disch := omega) only [zRk, zKin, zFinds, zHit, zOf, nR, nK, nF, c, d] at q ⊢
    exact q
  · have q := r8
    simp (disch := omega) only [zRl, nS, c, d] at q ⊢
    exact q
  · refine ⟨?_, ?_, ?_⟩
    · rw [d (by omega), c (by decide) (by decide)]
      exact r9.1
    · rw [d (by omega), c (by decide) (by decide)]
      exact r9.2.1
    · rw [d (by omega), hT]
      exact r9.2.2
  · have q := r10
    simp (disch := omega) only [zRx, nX, c, d] at q ⊢
    exact q
  · have q := r11
    simp (disch := omega) only [zRp, nF, c, d] at q ⊢
    exact q
  · have q := r12
    simp (disch := omega) only [zRb, nD, nF, nT, c, d, hH.2, ho2] at q ⊢
    exact q
  · have q := r13
    simp (disch := omega) only [zRg, nB, nG, c, d] at q ⊢
    exact q
theorem zTown_o {M M' : yb_S} {f g : Nat} (hH : zHous M M' f) (h : g ≠ f) : zTown M' g = zTown M g := by
  unfold zTown
  rw [hH.1 195 g (Or.inr h), hH.1 196 g (Or.inr h), hH.1 183 _ (Or.inl (by omega))]
theorem zHeads_u {M M' : yb_S} {f : Nat} {T : Int32} (hf : f < nF M) (hH : zHous M M' f) : zHeads M' T = zHeads M T - cond (zTown M f == T) (M.1 189 f) 0 + cond (zTown M' f == T) (M.1 189 f) 0 := by
  have e27 : nF M' = nF M := by
    unfold nF
    rw [zHous_c hH (by decide) (by decide)]
  unfold zHeads
  rw [e27, zsum_upd (g := fun f => cond (zTown M f == T) (M.1 189 f) 0) hf (fun k hk h => by rw [zTown_o hH h, zHous_c hH (by decide) (by decide)]), zHous_c hH (id := 189) (by decide) (by decide)]
theorem zPup_u {M M' : yb_S} {f : Nat} {T but : Int32} (hf : f < nF M) (hH : zHous M M' f) : zPup M' T but = zPup M T but - cond (zi f != but && zTown M f == T) (M.1 190 f) 0 + cond (zi f != but && zTown M' f == T) (M.1 190 f) 0 := by
  have e27 : nF M' = nF M := by
    unfold nF
    rw [zHous_c hH (by decide) (by decide)]
  unfold zPup
  rw [e27, zsum_upd (g := fun f => cond (zi f != but && zTown M f == T) (M.1 190 f) 0) hf (fun k hk h => by rw [zTown_o hH h, zHous_c hH (by decide) (by decide)]), zHous_c hH (id := 190) (by decide) (by decide)]
theorem zRooms_u {M M' : yb_S} {f : Nat} {T : Int32} (hH : zHous M M' f) : zRooms M' T = zRooms M T := by
  unfold zRooms nH
  rw [zHous_c hH (id := 176) (by decide) (by decide), zHous_c hH (id := 183) (by decide) (by decide), zHous_c hH (id := 184) (by decide) (by decide)]
theorem zThere_u {M M' : yb_S} {f : Nat} (hf : f < nF M) (hH : zHous M M' f) (h1 : M.1 195 f ≠ 2) (h2 : M'.1 195 f ≠ 2) : zThere M' = zThere M := by
  unfold zThere nF
  rw [zHous_c hH (id := 176) (by decide) (by decide)]
  refine zsum_congr fun k hk => ?_
  rw [zHous_c hH (id := 189) (by decide) (by decide)]
  by_cases e : k = f
  · subst e
    rw [show (M.1 195 k == 2) = false from beq_eq_false_iff_ne.mpr h1, show (M'.1 195 k == 2) = false from beq_eq_false_iff_ne.mpr h2]
  · rw [hH.1 195 k (Or.inr e)]
theorem zm_eqF {t T : Nat} (ht : t < 2147483648) (hT : T < 2147483648) (h : T ≠ t) : (zi t == zi T) = false := beq_eq_false_iff_ne.mpr (by rw [ne_eq, zi_inj ht hT]; omega)
theorem zLodger_one {M : yb_S} {f h : Nat} (hf : f < nF M) (h1 : M.1 195 f = 1) (h2 : M.1 196 f = zi h) (hu : ∀ g, g < nF M → g ≠ f → M.1 195 g = 1 → M.1 196 g ≠ zi h) : zLodger M h = zi f := by
  unfold zLodger
  rw [zfind_t (k := f) hf (fun x hx => ?_) (by rw [h1, h2]; simp)]
  · rfl
  · by_cases q : M.1 195 x = 1
    · rw [show (M.1 196 x == zi h) = false from beq_eq_false_iff_ne.mpr (hu x (by omega) (by omega) q), Bool.and_false]
    · rw [show (M.1 195 x == 1) = false from beq_eq_false_iff_ne.mpr q, Bool.false_and]
theorem zLodger_none {M : yb_S} {h : Nat} (hu : ∀ g, g < nF M → M.1 195 g = 1 → M.1 196 g ≠ zi h) : zLodger M h = -1 := by
  unfold zLodger
  rw [zfind_n]
  · rfl
  · intro x hx
    by_cases q : M.1 195 x = 1
    · rw [show (M.1 196 x == zi h) = false from beq_eq_false_iff_ne.mpr (hu x hx q), Bool.and_false]
    · rw [show (M.1 195 x == 1) = false from beq_eq_false_iff_ne.mpr q, Bool.false_and]
theorem zfind_ok {p : Nat → Bool} : ∀ {n k : Nat}, zfind p n = some k → k < n ∧ p k = true
  | n + 1, k, h => by
    have h : (match zfind p n with | some k => some k | none => if p n then some n else none) = some k := h
    cases e : zfind p n with
    | some j =>
      rw [e] at h
      cases h
      have := zfind_ok e
      exact ⟨by omega, this.2⟩
    | none =>
      rw [e] at h
      dsimp only at h
      split at h
      · cases h
        exact ⟨by omega, by assumption⟩
      · cases h
theorem zLodger_cases {M : yb_S} {h : Nat} (hF : nF M ≤ 24) : (zLodger M h = -1 ∧ ∀ g, g < nF M → M.1 195 g = 1 → M.1 196 g ≠ zi h) ∨ ∃ f, f < nF M ∧ zLodger M h = zi f ∧ M.1 195 f = 1 ∧ M.1 196 f = zi h := by
  cases e : zfind (fun f => M.1 195 f == 1 && M.1 196 f == zi h) (nF M) with
  | none =>
    left
    have hz : zLodger M h = -1 := by
      unfold zLodger
      rw [e]
      rfl
    refine ⟨hz, fun g hg h1 h2 => ?_⟩
    have : ∃ k, zfind (fun f => M.1 195 f == 1 && M.1 196 f == zi h) (nF M) = some k := by
      have key : ∀ n, g < n → ∃ k, zfind (fun f => M.1 195 f == 1 && M.1 196 f == zi h) n = some k := by
        intro n
        induction n with
        | zero => intro q; exact absurd q (Nat.not_lt_zero _)
        | succ n ih =>
          intro q
          show ∃ k, (match zfind (fun f => M.1 195 f == 1 && M.1 196 f == zi h) n with | some k => some k | none => if (M.1 195 n == 1 && M.1 196 n == zi h) then some n else none) = some k
          cases e2 : zfind (fun f => M.1 195 f == 1 && M.1 196 f == zi h) n with
          | some j => exact ⟨j, rfl⟩
          | none =>
            by_cases e3 : g = n
            · subst e3
              refine ⟨g, ?_⟩
              dsimp only
              rw [h1, h2]
              simp
            · obtain ⟨k, hk⟩ := ih (by omega)
              rw [hk] at e2
              cases e2
      exact key _ hg
    obtain ⟨k, hk⟩ := this
    rw [hk] at e
    cases e
  | some k =>
    right
    obtain ⟨h1, h2⟩ := zfind_ok e
    simp only [Bool.and_eq_true, beq_iff_eq] at h2
    exact ⟨k, h1, by unfold zLodger; rw [e]; rfl, h2.1, h2.2⟩
