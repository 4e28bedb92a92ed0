/-! the reference reads what holds -/
section
variable {T : Nat → Int32} {n c m b : Nat} {w : yb_S}
/-- a sign passed, at the end -/
theorem zr_ps {x : zpS} {u : yb_S} (hb : zrb T n c w) (hu : zrf T n c w u x) (hx : x.1 = true) {s : Int32} : zs_P ((f_X12_passes (zb (zpis (zKk T n) s x)) u).bind fun q => if q.1 = 0 then some ((0 : Int32), q.2) else some ((1 : Int32), q.2)) (fun a => zrs T n c w (zpps (zKk T n) s x) a) := by
  refine zs_bind (zr_pass hb hu hx (zpis (zKk T n) s x)) fun a ha => ?_
  obtain ⟨a1, a2⟩ := a
  have ep : cond (zpis (zKk T n) s x) (zpnx x) (zpfl x) = zpps (zKk T n) s x := rfl
  rw [ep] at ha
  cases hp : (zpps (zKk T n) s x).1
  · obtain ⟨q1, q2⟩ := ha.2 hp
    dsimp only at q1 q2
    rw [if_pos q1]
    exact zs_ret (zrs_f hp q2)
  · obtain ⟨q1, q2⟩ := ha.1 hp
    dsimp only at q1 q2
    rw [if_neg (show ¬ a1 = 0 by rw [q1]; decide)]
    exact zs_ret (zrs_t hp q2)
theorem zr_cmT (hb : zrb T n c w) (hk : zpW (zKk T n) (zVv T n) m) {X1 X2 X3 : Int32 → yb_S → Option (Int32 × yb_S)} {L d : Nat} (hd : d + L = 8) {u : yb_S} {x : zpS} {D r : Nat} (hx : x.1 = true) (hu : zrf T n c w u x) (hG : zpG m b x D r) (hn : D + (2 * L + 4) ≤ 60) : zs_P ((g_X12_sum (zi d) u).bind fun q7 => if q7.1 = 0 then some ((0 : Int32), q7.2) else (f_X12_isSign (60 : Int32) q7.2).bind fun q10 => if q10 = 0 then (f_X12_isSign (62 : Int32) q7.2).bind fun q22 => if q22 = 0 then (f_X12_isSign (61 : Int32) q7.2).bind fun q25 => if q25 = 0 then (f_X12_fails q7.2).bind fun q28 => some (q28.1, q28.2) else j_X12_test_152 X1 X2 X3 (zi d) q7.2 else j_X12_test_152 X1 X2 X3 (zi d) q7.2 else j_X12_test_152 X1 X2 X3 (zi d) q7.2) (fun a => zrs T n c w (zpcm (zKk T n) (zpfc (zKk T n) (zVv T n) L) x) a) := by
  have hm5 := hk.1
  have g1 := zpsm_g hk (zpfc_g hk (L := L)) x D r hG (by omega)
  have hI := zpfc_i (K := zKk T n) (V := zVv T n) (L := L)
  refine zr_then (zr_S hb hk hd u x D r hx hu hG (by omega)) (fun hp v hv => ?_) (fun hp v hv => ?_)
  · rw [if_neg (show ¬ (1 : Int32) = 0 by decide)]
    have key : zpis (zKk T n) (zpsg (zKk T n) (zpsm (zKk T n) (zpfc (zKk T n) (zVv T n) L) x)) (zpsm (zKk T n) (zpfc (zKk T n) (zVv T n) L) x) = true → zs_P (j_X12_test_152 X1 X2 X3 (zi d) v) (fun a => zrs T n c w (zpcm (zKk T n) (zpfc (zKk T n) (zVv T n) L) x) a) := by
      intro hc
      have hsb := zpsg_b (K := zKk T n) (x := zpsm (zKk T n) (zpfc (zKk T n) (zVv T n) L) x)
      unfold j_X12_test_152 zpcm
      have hsn : zsn (zpsg (zKk T n) (zpsm (zKk T n) (zpfc (zKk T n) (zVv T n) L) x)) = true ∧ zpsg (zKk T n) (zpsm (zKk T n) (zpfc (zKk T n) (zVv T n) L) x) ≠ 0 := by
        unfold zpsg
        cases zpis (zKk T n) 60 (zpsm (zKk T n) (zpfc (zKk T n) (zVv T n) L) x) <;> cases zpis (zKk T n) 62 (zpsm (zKk T n) (zpfc (zKk T n) (zVv T n) L) x) <;> decide
      have eK := (zpis_t hc).2
      obtain ⟨hSlt, eop⟩ := zr_op hb hv (by rw [eK]; exact hsn.1)
      have hn5 := (zrw_x hb hv.1).1
      rw [eK] at eop
      generalize zpsg (zKk T n) (zpsm (zKk T n) (zpfc (zKk T n) (zVv T n) L) x) = sg at *
      generalize zpsm (zKk T n) (zpfc (zKk T n) (zVv T n) L) x = y at *
      have ep : zpps (zKk T n) sg y = zpnx y := by
        unfold zpps
        rw [hc]
        rfl
      have g2 := zpG_nx hk g1 hsn.2 hc
      rw [hv.2.1, zi_rd (by omega) (by omega), Option.bind_some, eop, ep]
      refine zs_bind (zr_go hb hv) fun v2 hv2 => ?_
      refine zr_then (zr_S hb hk hd v2 (zpnx y) (D + 1) (r + 1) hp hv2 g2 (by omega)) (fun hq v3 hv3 => ?_) (fun hq v3 hv3 => ?_)
      · rw [if_neg (show ¬ (1 : Int32) = 0 by decide)]
        obtain ⟨v4, e4, hv4⟩ := zr_put hb hv3 hq (op := sg) (v := 0) (zpG_n hm5 (zpsm_g hk (zpfc_g hk (L := L)) _ (D + 1) (r + 1) g2 (by omega)) hq)
        rw [e4, Option.bind_some, if_neg (show ¬ (1 : Int32) = 0 by decide)]
        exact zs_ret (zrs_t (by rw [zpt_1]; exact hq) hv4)
      · rw [if_pos rfl, zpt_i hq]
        exact zs_ret (zrs_f hq hv3)
    rw [zr_sg hb hv hp (by decide), Option.bind_some]
    cases h60 : zpis (zKk T n) 60 (zpsm (zKk T n) (zpfc (zKk T n) (zVv T n) L) x)
    · rw [if_pos (show zb false = 0 from rfl), zr_sg hb hv hp (by decide), Option.bind_some]
      cases h62 : zpis (zKk T n) 62 (zpsm (zKk T n) (zpfc (zKk T n) (zVv T n) L) x)
      · have es : zpsg (zKk T n) (zpsm (zKk T n) (zpfc (zKk T n) (zVv T n) L) x) = 61 := by
          unfold zpsg
          rw [h60, h62]
          rfl
        rw [if_pos (show zb false = 0 from rfl), zr_sg hb hv hp (by decide), Option.bind_some]
        cases h61 : zpis (zKk T n) 61 (zpsm (zKk T n) (zpfc (zKk T n) (zVv T n) L) x)
        · have ez : zpcm (zKk T n) (zpfc (zKk T n) (zVv T n) L) x = zpfl (zpsm (zKk T n) (zpfc (zKk T n) (zVv T n) L) x) := by
            unfold zpcm
            rw [es]
            have ep : zpps (zKk T n) 61 (zpsm (zKk T n) (zpfc (zKk T n) (zVv T n) L) x) = zpfl (zpsm (zKk T n) (zpfc (zKk T n) (zVv T n) L) x) := by
              unfold zpps
              rw [h61]
              rfl
            rw [ep, zpsm_i hI _ rfl, zpt_i rfl]
          rw [if_pos (show zb false = 0 from rfl), ez]
          exact zr_flS hv
        · rw [if_neg (show ¬ zb true = 0 by decide)]
          exact key (by rw [es]; exact h61)
      · rw [if_neg (show ¬ zb true = 0 by decide)]
        exact key (by unfold zpsg; rw [h60, h62]; exact h62)
    · rw [if_neg (show ¬ zb true = 0 by decide)]
      exact key (by unfold zpsg; rw [h60]; exact h60)
  · have ez : zpcm (zKk T n) (zpfc (zKk T n) (zVv T n) L) x = zpsm (zKk T n) (zpfc (zKk T n) (zVv T n) L) x := by
      unfold zpcm
      rw [zpps_i hp, zpsm_i hI _ hp, zpt_i hp]
    rw [if_pos rfl, ez]
    exact zs_ret (zrs_f hp hv)
theorem zr_ttT (hb : zrb T n c w) (hk : zpW (zKk T n) (zVv T n) m) {X1 X2 X3 : Int32 → yb_S → Option (Int32 × yb_S)} {L d : Nat} (hd : d + L = 8) (hA : ∀ L', L = L' + 1 → zPR T n c m b w (zpan (zKk T n) (zptt (zKk T n) (zVv T n) L')) (X2 (zi (d + 1))) (2 * L' + 6)) (hT : ∀ L', L = L' + 1 → zPR T n c m b w (zptt (zKk T n) (zVv T n) L') (X3 (zi (d + 1))) (2 * L' + 4)) : zPR T n c m b w (zptt (zKk T n) (zVv T n) L) (f_X12_test X1 X2 X3 (zi d)) (2 * L + 4) := by
  have hm5 := hk.1
  intro u x D r hx hu hG hn
  unfold f_X12_test
  rw [show (100025 : Nat) = 100000 + zwj 8 from rfl, zr_wd hb hu hx (by decide), show zkw (some 8) = 6 from rfl, Option.bind_some]
  cases h6 : zpis (zKk T n) 6 x
  · rw [if_pos (show zb false = 0 from rfl), zr_sg hb hu hx (by decide), Option.bind_some]
    cases h91 : zpis (zKk T n) 91 x
    · have ez : zptt (zKk T n) (zVv T n) L x = zpcm (zKk T n) (zpfc (zKk T n) (zVv T n) L) x := by
        cases L <;> unfold zptt <;> simp only [h6, h91, cond_false]
      rw [if_pos (show zb false = 0 from rfl), ez]
      exact zr_cmT hb hk hd hx hu hG hn
    · rw [if_neg (show ¬ zb true = 0 by decide)]
      unfold j_X12_test_75
      cases L with
      | zero =>
        have ez : zptt (zKk T n) (zVv T n) 0 x = zpfl x := by
          unfold zptt
          simp only [h6, h91, cond_false, cond_true]
        rw [if_pos (by rw [show (8 : Int32) = zi 8 from rfl, zi_le (by omega) (by omega)]; omega), ez]
        refine zr_then (p := zpfl) (x := x) (zr_pass hb hu hx false) (fun hp v2 hv2 => by cases hp) (fun hp v2 hv2 => ?_)
        rw [if_pos rfl]
        exact zs_ret (zrs_f hp hv2)
      | succ L' =>
        have ez : zptt (zKk T n) (zVv T n) (L' + 1) x = zpps (zKk T n) 93 (zpan (zKk T n) (zptt (zKk T n) (zVv T n) L') (zpnx x)) := by
          show cond (zpis (zKk T n) 6 x) _ (cond (zpis (zKk T n) 91 x) _ _) = _
          rw [h6, h91]
          rfl
        rw [if_neg (by rw [show (8 : Int32) = zi 8 from rfl, zi_le (by omega) (by omega)]; omega), ez]
        have g1 := zpG_nx hk hG (by decide) h91
        refine zr_then (p := zpnx) (x := x) (zr_pass hb hu hx true) (fun hp v2 hv2 => ?_) (fun hp v2 hv2 => ?_)
        · rw [if_neg (show ¬ (1 : Int32) = 0 by decide), zi_succ]
          refine zr_then (hA L' rfl v2 (zpnx x) D (r + 1) hp hv2 g1 (by omega)) (fun hq v3 hv3 => ?_) (fun hq v3 hv3 => ?_)
          · rw [if_neg (show ¬ (1 : Int32) = 0 by decide), zr_sg hb hv3 hq (by decide), Option.bind_some]
            exact zr_ps hb hv3 hq
          · rw [if_pos rfl, zpps_i hq]
            exact zs_ret (zrs_f hq hv3)
        · have hp : x.1 = false := hp
          rw [hx] at hp
          cases hp
  · rw [if_neg (show ¬ zb true = 0 by decide)]
    unfold j_X12_test_22
    cases L with
    | zero =>
      have ez : zptt (zKk T n) (zVv T n) 0 x = zpfl x := by
        unfold zptt
        simp only [h6, cond_true]
      rw [if_pos (by rw [show (8 : Int32) = zi 8 from rfl, zi_le (by omega) (by omega)]; omega), ez]
      refine zr_then (p := zpfl) (x := x) (zr_pass hb hu hx false) (fun hp v2 hv2 => by cases hp) (fun hp v2 hv2 => ?_)
      rw [if_pos rfl]
      exact zs_ret (zrs_f hp hv2)
    | succ L' =>
      have ez : zptt (zKk T n) (zVv T n) (L' + 1) x = zpt 33 0 (zptt (zKk T n) (zVv T n) L' (zpnx x)) := by
        show cond (zpis (zKk T n) 6 x) _ _ = _
        rw [h6]
        rfl
      rw [if_neg (by rw [show (8 : Int32) = zi 8 from rfl, zi_le (by omega) (by omega)]; omega), ez]
      have g1 := zpG_nx hk hG (by decide) h6
      refine zr_then (p := zpnx) (x := x) (zr_pass hb hu hx true) (fun hp v2 hv2 => ?_) (fun hp v2 hv2 => ?_)
      · rw [if_neg (show ¬ (1 : Int32) = 0 by decide), zi_succ]
        refine zr_then (hT L' rfl v2 (zpnx x) D (r + 1) hp hv2 g1 (by omega)) (fun hq v3 hv3 => ?_) (fun hq v3 hv3 => ?_)
        · rw [if_neg (show ¬ (1 : Int32) = 0 by decide)]
          obtain ⟨v4, e4, hv4⟩ := zr_put hb hv3 hq (op := 33) (v := 0) (zpG_n hm5 (zptt_g hk (L := L') _ D (r + 1) g1 (by omega)) hq)
          rw [e4, Option.bind_some, if_neg (show ¬ (1 : Int32) = 0 by decide)]
          exact zs_ret (zrs_t (by rw [zpt_1]; exact hq) hv4)
        · rw [if_pos rfl, zpt_i hq]
          exact zs_ret (zrs_f hq hv3)
      · have hp : x.1 = false := hp
        rw [hx] at hp
        cases hp
theorem zr_T (hb : zrb T n c w) (hk : zpW (zKk T n) (zVv T n) m) : ∀ (L d : Nat), d + L = 8 → (∀ f, 3 * L + 1 ≤ f → zPR T n c m b w (zptt (zKk T n) (zVv T n) L) ((gg_X12_each f).2.2 (zi d)) (2 * L + 4)) ∧ (∀ f, 3 * L + 2 ≤ f → zPR T n c m b w (zpea (zKk T n) (zptt (zKk T n) (zVv T n) L)) ((gg_X12_each f).1 (zi d)) (2 * L + 5)) ∧ ∀ f, 3 * L + 3 ≤ f → zPR T n c m b w (zpan (zKk T n) (zptt (zKk T n) (zVv T n) L)) ((gg_X12_each f).2.1 (zi d)) (2 * L + 6) := by
  intro L
  induction L with
  | zero =>
    intro d hd
    have A : ∀ f, 3 * 0 + 1 ≤ f → zPR T n c m b w (zptt (zKk T n) (zVv T n) 0) ((gg_X12_each f).2.2 (zi d)) (2 * 0 + 4) := fun f hf => by
      obtain ⟨f, rfl⟩ : ∃ g, f = g + 1 := ⟨f - 1, by omega⟩
      exact zr_ttT hb hk hd (fun L' e => by omega) (fun L' e => by omega)
    have B : ∀ f, 3 * 0 + 2 ≤ f → zPR T n c m b w (zpea (zKk T n) (zptt (zKk T n) (zVv T n) 0)) ((gg_X12_each f).1 (zi d)) (2 * 0 + 5) := fun f hf => by
      obtain ⟨f, rfl⟩ : ∃ g, f = g + 1 := ⟨f - 1, by omega⟩
      exact zr_each hb hk (A f (by omega)) (zptt_g hk) zptt_m
    refine ⟨A, B, fun f hf => ?_⟩
    obtain ⟨f, rfl⟩ : ∃ g, f = g + 1 := ⟨f - 1, by omega⟩
    exact zr_any hb hk (B f (by omega)) (zpea_g hk (zptt_g hk)) (zpea_m zptt_m)
  | succ L ih =>
    intro d hd
    have A : ∀ f, 3 * (L + 1) + 1 ≤ f → zPR T n c m b w (zptt (zKk T n) (zVv T n) (L + 1)) ((gg_X12_each f).2.2 (zi d)) (2 * (L + 1) + 4) := fun f hf => by
      obtain ⟨f, rfl⟩ : ∃ g, f = g + 1 := ⟨f - 1, by omega⟩
      refine zr_ttT hb hk hd (fun L' e => ?_) (fun L' e => ?_)
      · have e2 : L' = L := by omega
        subst e2
        exact (ih (d + 1) (by omega)).2.2 f (by omega)
      · have e2 : L' = L := by omega
        subst e2
        exact (ih (d + 1) (by omega)).1 f (by omega)
    have B : ∀ f, 3 * (L + 1) + 2 ≤ f → zPR T n c m b w (zpea (zKk T n) (zptt (zKk T n) (zVv T n) (L + 1))) ((gg_X12_each f).1 (zi d)) (2 * (L + 1) + 5) := fun f hf => by
      obtain ⟨f, rfl⟩ : ∃ g, f = g + 1 := ⟨f - 1, by omega⟩
      exact zr_each hb hk (A f (by omega)) (zptt_g hk) zptt_m
    refine ⟨A, B, fun f hf => ?_⟩
    obtain ⟨f, rfl⟩ : ∃ g, f = g + 1 := ⟨f - 1, by omega⟩
    exact zr_any hb hk (B f (by omega)) (zpea_g hk (zptt_g hk)) (zpea_m zptt_m)
theorem zr_A (hb : zrb T n c w) (hk : zpW (zKk T n) (zVv T n) m) {L d : Nat} (hd : d + L = 8) : zPR T n c m b w (zpan (zKk T n) (zptt (zKk T n) (zVv T n) L)) (g_X12_either (zi d)) (2 * L + 6) := (zr_T hb hk L d hd).2.2 120 (by omega)
end
