/-! passed, why, and what is kept of the days -/
theorem ze_28 : ∀ (a1 a2 : Int32) (s : yb_S), zInv s → ∃ (r : Int32) (s1 s2 : yb_S), (f_X11_passed a1 a2 s = some r ∧ s1 = s) ∧ (f_X12_passed a1 a2 s1 = some r ∧ s2 = s1) ∧ zInv s2 := by
  intro a1 a2 s h
  have hW := h.1
  have h8 := zw_F8 hW
  obtain ⟨q, hq, hq5, hq0, hqq⟩ := h.2.1.2.2.2.2.2.2.2.2.2.2.1
  have e5 : ∀ m t, zA (zP s) m t → ∃ q, q ≤ nF (zP s) ∧ t.1 100 5 = zi q ∧ ((zP s).1 176 64 = 0 → q = 0) ∧ ∀ f, f < 24 → ∀ g, g < 24 → (f < q → g < q → t.1 (104 + 1 * f) g = (zP s).1 (342 + 1 * f) g) ∧ ((zP s).1 176 64 = 1 → q ≤ f ∨ q ≤ g → (zP s).1 (342 + 1 * f) g = -1) := by
    intro m t hA
    obtain ⟨q, hq, hq5, hq0, hqq⟩ := hA.1.2.2.2.2.2.2.2.2.2.2.1
    refine ⟨q, hq, hq5, hq0, fun f hf g hg => ?_⟩
    have := hqq f hf g hg
    rw [zO_rd (zeO_t (by omega)), show 104 + f % 24 = 104 + 1 * f by omega, show 342 + f % 24 = 342 + 1 * f by omega] at this
    exact this
  have hout : ∀ {n : Nat} {x : Int32}, n < 2147483648 → ¬ zin x n → x < 0 ∨ zi n ≤ x := fun hn hx => zin_no hn hx
  have hp64 : (zP s).1 176 64 = 0 ∨ (zP s).1 176 64 = 1 := hW.2.2.2.2.2.2.2.2.2.2.2.2.1
  have hA0 : ∀ m t, zA (zP s) m t → ∀ q, t.1 100 5 = zi q → q ≤ 24 → ¬ (zin a1 q ∧ zin a2 q) → f_X11_passed a1 a2 t = some (-1) := by
    intro m t hA q hq hq24 hn
    unfold f_X11_passed f_X6_whyPassed
    rw [hq]
    by_cases h1 : zin a1 q
    · obtain ⟨f, hf, rfl⟩ := h1
      have h2 : ¬ zin a2 q := fun k => hn ⟨⟨f, hf, rfl⟩, k⟩
      rw [if_neg (by rw [zi_neg (by omega)]; exact id), if_neg (by rw [zi_le (by omega) (by omega)]; omega)]
      rcases hout (by omega) h2 with k | k
      · rw [if_pos k]
        rfl
      · by_cases k2 : a2 < 0
        · rw [if_pos k2]
          rfl
        · rw [if_neg k2, if_pos k]
          rfl
    · rcases hout (by omega) h1 with k | k
      · rw [if_pos k]
        rfl
      · by_cases k2 : a1 < 0
        · rw [if_pos k2]
          rfl
        · rw [if_neg k2, if_pos k]
          rfl
  by_cases hc : zin a1 (nF (zP s)) ∧ zin a2 (nF (zP s))
  · obtain ⟨⟨f, hf, rfl⟩, ⟨g, hg, rfl⟩⟩ := hc
    refine z_ask0 (A := f_X11_passed (zi f) (zi g)) (B := f_X12_passed (zi f) (zi g)) h (if (zP s).1 176 64 = 0 then -1 else (zP s).1 (342 + 1 * f) g) (fun m t hA => ?_) (fun o t hQ => ?_)
    · obtain ⟨q, hq, hq5, hq0, hqq⟩ := e5 m t hA
      by_cases h64 : (zP s).1 176 64 = 0
      · rw [if_pos h64]
        refine hA0 m t hA q hq5 (by omega) (fun k => ?_)
        obtain ⟨⟨x, hx, -⟩, -⟩ := k
        have := hq0 h64
        omega
      · rw [if_neg h64]
        have h1 := hqq f (by omega) g (by omega)
        by_cases hfg : f < q ∧ g < q
        · unfold f_X11_passed f_X6_whyPassed
          rw [hq5, if_neg (by rw [zi_neg (by omega)]; exact id), if_neg (by rw [zi_le (by omega) (by omega)]; omega), if_neg (by rw [zi_neg (by omega)]; exact id), if_neg (by rw [zi_le (by omega) (by omega)]; omega), zi_ri (by omega) (by omega), Option.bind_some, zi_rd (by omega) (by omega), h1.1 hfg.1 hfg.2]
          rfl
        · rw [h1.2 (hp64.resolve_left h64) (by omega)]
          refine hA0 m t hA q hq5 (by omega) (fun k => hfg ?_)
          obtain ⟨⟨x, hx, ex⟩, ⟨y, hy, ey⟩⟩ := k
          rw [zi_inj (by omega) (by omega)] at ex ey
          omega
    · unfold f_X12_passed
      rw [zm_hFt hW hQ hf, Option.bind_some, if_neg (by decide), zm_hFt hW hQ hg, Option.bind_some, if_neg (by decide), zqk hQ (by omega)]
      by_cases h64 : (zP s).1 176 64 = 0
      · rw [if_pos h64, if_pos h64]
      · rw [if_neg h64, if_neg h64, zi_ri (by omega) (by omega), Option.bind_some, zi_rd (by omega) (by omega), zq hQ (by omega)]
        rfl
  · refine z_ask0 (A := f_X11_passed a1 a2) (B := f_X12_passed a1 a2) h (-1) (fun m t hA => ?_) (fun o t hQ => ?_)
    · obtain ⟨q, hq, hq5, hq0, hqq⟩ := e5 m t hA
      refine hA0 m t hA q hq5 (by omega) (fun k => hc ?_)
      obtain ⟨⟨x, hx, ex⟩, ⟨y, hy, ey⟩⟩ := k
      exact ⟨⟨x, by omega, ex⟩, ⟨y, by omega, ey⟩⟩
    · unfold f_X12_passed
      by_cases h1 : zin a1 (nF (zP s))
      · obtain ⟨f, hf, rfl⟩ := h1
        rw [zm_hFt hW hQ hf, zm_hFf hW hQ (fun k => hc ⟨⟨f, hf, rfl⟩, k⟩)]
        rfl
      · rw [zm_hFf hW hQ h1]
        rfl
theorem ze_23 : ∀ (a1 a2 : Int32) (s : yb_S), zInv s → ∃ (r : Int32) (s1 s2 : yb_S), (f_X11_why a1 a2 s = some r ∧ s1 = s) ∧ (f_X12_why a1 a2 s1 = some r ∧ s2 = s1) ∧ zInv s2 := by
  intro a1 a2 s h
  have hW := h.1
  have h8 := zw_S8 hW
  have h9 := zw_D8 hW
  have h58 : (zP s).1 176 58 = -1 := z_b58 h
  rcases zi_cases a1 with hc | ⟨c, hc0, rfl⟩
  · refine z_ask0 (A := f_X11_why a1 a2) (B := f_X12_why a1 a2) h (-1) (fun m t hA => ?_) (fun o t hQ => ?_)
    · unfold f_X11_why
      rw [if_pos (show a1 < 0 from hc)]
    · unfold f_X12_why
      rw [z_inN hc (by decide), if_pos rfl]
  by_cases hc6 : c < 6
  · rcases zi_cases a2 with hd | ⟨d, hd0, rfl⟩
    · refine z_ask0 (A := f_X11_why (zi c) a2) (B := f_X12_why (zi c) a2) h (-1) (fun m t hA => ?_) (fun o t hQ => ?_)
      · unfold f_X11_why
        rw [if_neg (by rw [zi_neg (by omega)]; exact id), if_neg (by rw [show (6 : Int32) = zi 6 from rfl, zi_le (by omega) (by omega)]; omega), if_pos (show a2 < 0 from hd)]
      · unfold f_X12_why
        rw [z_inZ (l := 0) (h := 5) (a := 0) (b := 5) (by decide) (by decide) (by omega) (by decide) (by decide), if_pos (by omega), if_neg (by decide), zqk hQ (by omega), z_inN hd (by decide), if_pos rfl]
    by_cases hdn : d ≤ nD (zP s)
    · refine z_ask0 (A := f_X11_why (zi c) (zi d)) (B := f_X12_why (zi c) (zi d)) h (zix (zSheet (zP s) c (zi d) (nS (zP s)))) (fun m t hA => ?_) (fun o t hQ => ?_)
      · unfold f_X11_why
        rw [if_neg (by rw [zi_neg (by omega)]; exact id), if_neg (by rw [show (6 : Int32) = zi 6 from rfl, zi_le (by omega) (by omega)]; omega), if_neg (by rw [zi_neg (by omega)]; exact id), cq_D hA, zw_D hW, if_pos (by rw [zi_le (by omega) (by omega)]; omega), zo_inForce hW hA hc6]
        unfold zForceD
        rw [if_pos (show (zP s).1 176 58 = zm from h58)]
        rfl
      · unfold f_X12_why
        rw [z_inZ (l := 0) (h := 5) (a := 0) (b := 5) (by decide) (by decide) (by omega) (by decide) (by decide), if_pos (by omega), if_neg (by decide), zqk hQ (by omega), zw_D hW, z_inZ (a := 0) (b := nD (zP s)) (by decide) rfl hd0 (by decide) (by omega), if_pos (by omega), if_neg (by decide), zm_sheetFor hW hQ hc6]
        rfl
    · refine z_ask0 (A := f_X11_why (zi c) (zi d)) (B := f_X12_why (zi c) (zi d)) h (-1) (fun m t hA => ?_) (fun o t hQ => ?_)
      · unfold f_X11_why
        rw [if_neg (by rw [zi_neg (by omega)]; exact id), if_neg (by rw [show (6 : Int32) = zi 6 from rfl, zi_le (by omega) (by omega)]; omega), if_neg (by rw [zi_neg (by omega)]; exact id), cq_D hA, zw_D hW, if_neg (by rw [zi_le (by omega) (by omega)]; omega)]
      · unfold f_X12_why
        rw [z_inZ (l := 0) (h := 5) (a := 0) (b := 5) (by decide) (by decide) (by omega) (by decide) (by decide), if_pos (by omega), if_neg (by decide), zqk hQ (by omega), zw_D hW, z_inZ (a := 0) (b := nD (zP s)) (by decide) rfl hd0 (by decide) (by omega), if_neg (by omega), if_pos rfl]
  · refine z_ask0 (A := f_X11_why (zi c) a2) (B := f_X12_why (zi c) a2) h (-1) (fun m t hA => ?_) (fun o t hQ => ?_)
    · unfold f_X11_why
      rw [if_neg (by rw [zi_neg (by omega)]; exact id), if_pos (by rw [show (6 : Int32) = zi 6 from rfl, zi_le (by omega) (by omega)]; omega)]
    · unfold f_X12_why
      rw [z_inZ (l := 0) (h := 5) (a := 0) (b := 5) (by decide) (by decide) (by omega) (by decide) (by decide), if_neg (by omega), if_pos rfl]
theorem zo_ended1 {M m s : yb_S} (hW : zW M) (hA : zA M m s) {d : Nat} (hd : d < nD M) : f_X11_hasEnded (zi d) s = some 1 := by
  have h9 := zw_D8 hW
  unfold f_X11_hasEnded
  rw [cq_D hA, zw_D hW, if_neg (by rw [zi_neg (by omega)]; exact id), if_neg (by rw [zi_le (by omega) (by omega)]; omega)]
theorem zo_ended0 {M m s : yb_S} (hW : zW M) (hA : zA M m s) {a : Int32} (hd : ¬ zin a (nD M)) : f_X11_hasEnded a s = some 0 := by
  have h9 := zw_D8 hW
  unfold f_X11_hasEnded
  rw [cq_D hA, zw_D hW]
  rcases zin_no (by omega) hd with k | k
  · rw [if_pos (show a < 0 from k)]
  · by_cases k2 : a < 0
    · rw [if_pos k2]
    · rw [if_neg k2, if_pos k]
theorem zm_ended1 {M o s : yb_S} (hW : zW M) (hQ : zQ M o s) {d : Nat} (hd : d < nD M) : f_X12_hasEnded (zi d) s = some 1 := by
  have h9 := zw_D8 hW
  unfold f_X12_hasEnded
  rw [zqk hQ (by omega), zw_D hW, z_inC1 (by omega) hd]
  rfl
theorem zm_ended0 {M o s : yb_S} (hW : zW M) (hQ : zQ M o s) {a : Int32} (hd : ¬ zin a (nD M)) : f_X12_hasEnded a s = some 0 := by
  have h9 := zw_D8 hW
  unfold f_X12_hasEnded
  rw [zqk hQ (by omega), zw_D hW, z_inC0 (by omega) hd]
  rfl
theorem cq_139 {M m s : yb_S} (h : zA M m s) {d f : Nat} (hd : d < nD M) (hf : f < nF M) (h24 : nF M ≤ 24) (hc : M.1 198 f ≤ zi d) : s.1 (139 + 1 * f) d = M.1 (367 + 1 * f) d := by
  have := h.1.2.2.2.2.2.2.2.2.2.2.2.1.1 d hd f hf hc
  rw [zO_rd (zeO_t (by omega)), show 139 + f % 24 = 139 + 1 * f by omega, show 367 + f % 24 = 367 + 1 * f by omega] at this
  exact this
def zNight (M : yb_S) (f d : Nat) : Int32 := if zi d < M.1 198 f then -1 else M.1 (367 + 1 * f) d
theorem zm_night {M o s : yb_S} (hW : zW M) (hQ : zQ M o s) {f d : Nat} (hf : f < nF M) (hd : d < nD M) : f_X12_night (zi f) (zi d) s = some (zNight M f d) := by
  have h8 := zw_F8 hW
  have h9 := zw_D8 hW
  unfold f_X12_night zNight
  rw [zm_hFt hW hQ hf, Option.bind_some, if_neg (by decide), zm_ended1 hW hQ hd, Option.bind_some, if_neg (by decide), zi_rd (by omega) (by omega), Option.bind_some, zq hQ (by omega)]
  by_cases e : zi d < M.1 198 f
  · rw [if_pos e, if_pos e]
  · rw [if_neg e, if_neg e, zi_ri (by omega) (by omega), Option.bind_some, zi_rd (by omega) (by omega), Option.bind_some, zq hQ (by omega)]
theorem ze_32 : ∀ (a1 a2 : Int32) (s : yb_S), zInv s → ∃ (r : Int32) (s1 s2 : yb_S), (f_X11_night a1 a2 s = some r ∧ s1 = s) ∧ (f_X12_night a1 a2 s1 = some r ∧ s2 = s1) ∧ zInv s2 := by
  intro a1 a2 s h
  have hW := h.1
  have h8 := zw_F8 hW
  have h9 := zw_D8 hW
  by_cases hc : zin a1 (nF (zP s)) ∧ zin a2 (nD (zP s))
  · obtain ⟨⟨f, hf, rfl⟩, ⟨d, hd, rfl⟩⟩ := hc
    refine z_ask0 (A := f_X11_night (zi f) (zi d)) (B := f_X12_night (zi f) (zi d)) h (zNight (zP s) f d) (fun m t hA => ?_) (fun o t hQ => zm_night hW hQ hf hd)
    unfold f_X11_night zNight
    rw [zo_hFt hW hA hf, Option.bind_some, if_neg (by decide), zi_rd (by omega) (by omega), Option.bind_some, cq_32 hA hf, zo_ended1 hW hA hd]
    by_cases e : zi d < (zP s).1 198 f
    · rw [if_pos e, if_pos e]
    · rw [if_neg e, if_neg e, Option.bind_some, if_neg (by decide), zi_ri (by omega) (by omega), Option.bind_some, zi_rd (by omega) (by omega), Option.bind_some, cq_139 hA hd hf h8 (Int32.not_lt.mp e)]
  · refine z_ask0 (A := f_X11_night a1 a2) (B := f_X12_night a1 a2) h (-1) (fun m t hA => ?_) (fun o t hQ => ?_)
    · unfold f_X11_night
      by_cases hf : zin a1 (nF (zP s))
      · obtain ⟨f, hf, rfl⟩ := hf
        rw [zo_hFt hW hA hf, Option.bind_some, if_neg (by decide), zi_rd (by omega) (by omega), Option.bind_some, zo_ended0 hW hA (fun q => hc ⟨⟨f, hf, rfl⟩, q⟩)]
        split <;> rfl
      · rw [zo_hFf hW hA hf]
        rfl
    · unfold f_X12_night
      by_cases hf : zin a1 (nF (zP s))
      · obtain ⟨f, hf, rfl⟩ := hf
        rw [zm_hFt hW hQ hf, Option.bind_some, if_neg (by decide), zm_ended0 hW hQ (fun q => hc ⟨⟨f, hf, rfl⟩, q⟩)]
        rfl
      · rw [zm_hFf hW hQ hf]
        rfl
theorem ze_33 : ∀ (a1 a2 : Int32) (s : yb_S), zInv s → ∃ (r : Int32) (s1 s2 : yb_S), (f_X11_lead a1 a2 s = some r ∧ s1 = s) ∧ (f_X12_lead a1 a2 s1 = some r ∧ s2 = s1) ∧ zInv s2 := by
  intro a1 a2 s h
  have hW := h.1
  have h8 := zw_F8 hW
  have h9 := zw_D8 hW
  have h10 := zw_H8 hW
  by_cases hc : zin a1 (nH (zP s)) ∧ zin a2 (nD (zP s))
  · obtain ⟨⟨g, hg, rfl⟩, ⟨d, hd, rfl⟩⟩ := hc
    refine z_ask0 (A := f_X11_lead (zi g) (zi d)) (B := f_X12_lead (zi g) (zi d)) h (zix (zfind (fun f => decide (zNight (zP s) f d = zi g)) (nF (zP s)))) (fun m t hA => ?_) (fun o t hQ => ?_)
    · unfold f_X11_lead f_X0_lodgerOf_21 l_X0_lodgerOf_21_3
      rw [zo_hHt hW hA hg, Option.bind_some, if_neg (by decide), zo_ended1 hW hA hd, Option.bind_some, if_neg (by decide)]
      have key : yb_it (α := Int32) (fun rc q => f_X0_lodgerOf_21_3 (fun x4 => rc x4) (zi g) (zi d) t q) yb_N (zi 0) = some (zix (zfind (fun f => decide (zNight (zP s) f d = zi g)) (nF (zP s)))) := by
        refine zs_exE (fun k => zi k) (nF (zP s)) _ (fun k => ∀ x, x < k → decide (zNight (zP s) x d = zi g) = false) ?_ ?_ yb_N 0 (Nat.zero_le _) (by unfold yb_N; omega) (fun x hx => absurd hx (Nat.not_lt_zero _))
        · intro k rc hk hI
          have hgo : decide (zNight (zP s) k d = zi g) = false → ∀ x, x < k + 1 → decide (zNight (zP s) x d = zi g) = false := fun q x hx => by
            by_cases e : x = k
            · rw [e]
              exact q
            · exact hI x (by omega)
          show f_X0_lodgerOf_21_3 _ _ _ _ (zi k) = _ ∨ f_X0_lodgerOf_21_3 _ _ _ _ (zi k) = _ ∧ _
          unfold f_X0_lodgerOf_21_3 j_X0_lodgerOf_21_39
          rw [cq_F hA, zw_F hW, if_neg (by rw [zi_le (by omega) (by omega)]; omega), zi_rd (by omega) (by omega), Option.bind_some, cq_32 hA hk, zi_succ]
          by_cases e : zi d < (zP s).1 198 k
          · right
            rw [if_pos e]
            refine ⟨rfl, hgo (decide_eq_false ?_)⟩
            unfold zNight
            rw [if_pos e, show (-1 : Int32) = zm from rfl, zi_meq (by omega)]
            exact id
          · rw [if_neg e, zi_ri (by omega) (by omega), Option.bind_some, zi_rd (by omega) (by omega), Option.bind_some, cq_139 hA hd hk h8 (Int32.not_lt.mp e)]
            have en : zNight (zP s) k d = (zP s).1 (367 + 1 * k) d := if_neg e
            by_cases e2 : (zP s).1 (367 + 1 * k) d = zi g
            · left
              rw [if_pos e2, zfind_t hk hI (by rw [en]; exact decide_eq_true e2)]
              rfl
            · right
              rw [if_neg e2]
              exact ⟨rfl, hgo (by rw [en]; exact decide_eq_false e2)⟩
        · intro hI rc
          show f_X0_lodgerOf_21_3 _ _ _ _ (zi (nF (zP s))) = _
          unfold f_X0_lodgerOf_21_3
          rw [cq_F hA, zw_F hW, if_pos (Int32.le_refl _), zfind_n hI]
          rfl
      have key : yb_it (α := Int32) (fun rc q => f_X0_lodgerOf_21_3 (fun x4 => rc x4) (zi g) (zi d) t q) yb_N 0 = _ := key
      rw [key]
      rfl
    · unfold f_X12_lead l_X12_lead_20
      rw [zm_hHt hW hQ hg, Option.bind_some, if_neg (by decide), zm_ended1 hW hQ hd, Option.bind_some, if_neg (by decide)]
      refine zs_exE (fun k => zi k) (nF (zP s)) _ (fun k => ∀ x, x < k → decide (zNight (zP s) x d = zi g) = false) ?_ ?_ yb_N 0 (Nat.zero_le _) (by unfold yb_N; omega) (fun x hx => absurd hx (Nat.not_lt_zero _))
      · intro k rc hk hI
        have hgo : decide (zNight (zP s) k d = zi g) = false → ∀ x, x < k + 1 → decide (zNight (zP s) x d = zi g) = false := fun q x hx => by
          by_cases e : x = k
          · rw [e]
            exact q
          · exact hI x (by omega)
        show f_X12_lead_20 _ _ _ _ (zi k) = _ ∨ f_X12_lead_20 _ _ _ _ (zi k) = _ ∧ _
        unfold f_X12_lead_20
        rw [zqk hQ (by omega), zw_F hW, if_neg (by rw [zi_le (by omega) (by omega)]; omega), zm_night hW hQ hk hd, Option.bind_some, zi_succ]
        by_cases e2 : zNight (zP s) k d = zi g
        · left
          rw [if_pos e2, zfind_t hk hI (decide_eq_true e2)]
          rfl
        · right
          rw [if_neg e2]
          exact ⟨rfl, hgo (decide_eq_false e2)⟩
      · intro hI rc
        show f_X12_lead_20 _ _ _ _ (zi (nF (zP s))) = _
        unfold f_X12_lead_20
        rw [zqk hQ (by omega), zw_F hW, if_pos (Int32.le_refl _), zfind_n hI]
        rfl
  · refine z_ask0 (A := f_X11_lead a1 a2) (B := f_X12_lead a1 a2) h (-1) (fun m t hA => ?_) (fun o t hQ => ?_)
    · unfold f_X11_lead
      by_cases hf : zin a1 (nH (zP s))
      · obtain ⟨f, hf, rfl⟩ := hf
        rw [zo_hHt hW hA hf, Option.bind_some, if_neg (by decide), zo_ended0 hW hA (fun q => hc ⟨⟨f, hf, rfl⟩, q⟩)]
        rfl
      · rw [zo_hHf hW hA hf]
        rfl
    · unfold f_X12_lead
      by_cases hf : zin a1 (nH (zP s))
      · obtain ⟨f, hf, rfl⟩ := hf
        rw [zm_hHt hW hQ hf, Option.bind_some, if_neg (by decide), zm_ended0 hW hQ (fun q => hc ⟨⟨f, hf, rfl⟩, q⟩)]
        rfl
      · rw [zm_hHf hW hQ hf]
        rfl
