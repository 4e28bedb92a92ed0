/-! WALKS: the machine follows the functions, piece 4 of 7 -/
set_option maxHeartbeats 4000000 in
set_option maxRecDepth 20000 in
theorem tj_X7_mutualOf_44 {G : yb_G} {X : List (FieldType × Nat)} {rc4 : (Int32 → Int32 → Option Int32)} {x1 : Int32} {x2 : Int32} {x3 : Int32} {s : yb_S} {out : Int32} (hrc4 : ∀ (x2' : Int32) (x3' : Int32), rc4 x2' x3' = some out → Rn G RX7 cX7_mutualOf 4 (Option.some .int) false (yb_rm 1) (yb_qi X s out) 0 0 4 [some (.ref (yb_ad G 41)), some (.int x1), some (.int x2'), some (.int x3')] [] (yb_mk s X)) (h : j_X7_mutualOf_44 rc4 x1 x2 x3 s = some out) : Rn G RX7 cX7_mutualOf 4 (Option.some .int) false (yb_rm 1) (yb_qi X s out) 0 0 44 [some (.ref (yb_ad G 41)), some (.int x1), some (.int x2), some (.int x3)] [] (yb_mk s X) := by
  unfold j_X7_mutualOf_44 at h
  refine n_iinc (vs' := [some (.ref (yb_ad G 41)), some (.int x1), some (.int x2), some (.int (x3 + (1 : Int32)))]) dX7_mutualOf_44 rfl (ii_1 _) (Nat.le_of_ble_eq_true rfl) rfl rfl ?_
  refine n_goto 4 dX7_mutualOf_47 (by decide) ?_
  exact p_jump (hrc4 x2 (x3 + (1 : Int32)) h) (And.intro rfl (And.intro rfl (And.intro rfl (And.intro rfl trivial))))
set_option maxHeartbeats 4000000 in
set_option maxRecDepth 20000 in
theorem t_l_X7_mutualOf_4 {G : yb_G} {X : List (FieldType × Nat)} {x1 : Int32} {s : yb_S} {out : Int32} : ∀ (k0 : Nat) (x2 : Int32) (x3 : Int32), l_X7_mutualOf_4 x1 s k0 x2 x3 = some out → Rn G RX7 cX7_mutualOf 4 (Option.some .int) false (yb_rm 1) (yb_qi X s out) 0 0 4 [some (.ref (yb_ad G 41)), some (.int x1), some (.int x2), some (.int x3)] [] (yb_mk s X) := by
  intro k0
  induction k0 with
  | zero => intro x2 x3 h; cases h
  | succ k0 ih =>
    intro x2 x3 h
    have h : f_X7_mutualOf_4 (fun x2 x3 => l_X7_mutualOf_4 x1 s k0 x2 x3) x1 s x2 x3 = some out := h
    have hrc4 := ih
    unfold f_X7_mutualOf_4 at h
    refine n_iload_n (i := 3) dX7_mutualOf_4 rfl rfl ?_
    refine n_bipush (24 : Int32) dX7_mutualOf_5 bp_24 ?_
    refine n_icmp_ge 50 dX7_mutualOf_7 (by decide) (fun c1 => ?_) (fun c1 => ?_)
    · have h := yb_ifp c1 h
      refine n_iload_n (i := 2) dX7_mutualOf_50 rfl rfl ?_
      cases h
      exact n_iret dX7_mutualOf_51 rfl rfl (Nat.le_refl _) (Nat.le_refl _) ⟨rfl, rfl⟩
    · have h := yb_ifn c1 h
      refine n_aload_n (i := 0) dX7_mutualOf_10 rfl rfl ?_
      refine p_getr fl_X7_42 (sh_41 _ _) rfl (rR_41_12 _ _) dX7_mutualOf_11 ?_
      refine n_iload_n (i := 1) dX7_mutualOf_14 rfl rfl ?_
      obtain ⟨v2, hv2, h⟩ := yb_bind h
      refine p_iald hv2 (sh_52 _ _) dX7_mutualOf_15 ?_
      refine n_iload_n (i := 3) dX7_mutualOf_16 rfl rfl ?_
      refine n_ishr dX7_mutualOf_17 ?_
      refine n_iconst (1 : Int32) dX7_mutualOf_18 ic_1 ?_
      refine n_iand dX7_mutualOf_19 ?_
      refine n_iconst (1 : Int32) dX7_mutualOf_20 ic_1 ?_
      refine n_icmp_ne 44 dX7_mutualOf_21 (by decide) (fun c3 => ?_) (fun c3 => ?_)
      · have h := yb_ifn c3 h
        exact p_jump (tj_X7_mutualOf_44 hrc4 h) (And.intro rfl (And.intro rfl (And.intro rfl (And.intro rfl trivial))))
      · have h := yb_ifp c3 h
        refine n_aload_n (i := 0) dX7_mutualOf_24 rfl rfl ?_
        refine p_getr fl_X7_42 (sh_41 _ _) rfl (rR_41_12 _ _) dX7_mutualOf_25 ?_
        refine n_iload_n (i := 3) dX7_mutualOf_28 rfl rfl ?_
        obtain ⟨v4, hv4, h⟩ := yb_bind h
        refine p_iald hv4 (sh_52 _ _) dX7_mutualOf_29 ?_
        refine n_iload_n (i := 1) dX7_mutualOf_30 rfl rfl ?_
        refine n_ishr dX7_mutualOf_31 ?_
        refine n_iconst (1 : Int32) dX7_mutualOf_32 ic_1 ?_
        refine n_iand dX7_mutualOf_33 ?_
        refine n_iconst (1 : Int32) dX7_mutualOf_34 ic_1 ?_
        refine n_icmp_ne 44 dX7_mutualOf_35 (by decide) (fun c5 => ?_) (fun c5 => ?_)
        · have h := yb_ifn c5 h
          exact p_jump (tj_X7_mutualOf_44 hrc4 h) (And.intro rfl (And.intro rfl (And.intro rfl (And.intro rfl trivial))))
        · have h := yb_ifp c5 h
          refine n_iload_n (i := 2) dX7_mutualOf_38 rfl rfl ?_
          refine n_iconst (1 : Int32) dX7_mutualOf_39 ic_1 ?_
          refine n_iload_n (i := 3) dX7_mutualOf_40 rfl rfl ?_
          refine n_ishl dX7_mutualOf_41 ?_
          refine n_ior dX7_mutualOf_42 ?_
          refine n_istore_n (i := 2) (vs' := [some (.ref (yb_ad G 41)), some (.int x1), some (.int (x2 ||| ((1 : Int32) <<< (x3 &&& 31)))), some (.int x3)]) dX7_mutualOf_43 rfl (Nat.le_of_ble_eq_true rfl) rfl rfl ?_
          exact p_jump (tj_X7_mutualOf_44 hrc4 h) (And.intro rfl (And.intro rfl (And.intro rfl (And.intro rfl trivial))))
set_option maxHeartbeats 4000000 in
set_option maxRecDepth 20000 in
theorem tl_X7_mutualOf_4 {G : yb_G} {X : List (FieldType × Nat)} {x1 : Int32} {s : yb_S} {out : Int32} {x2 : Int32} {x3 : Int32} (h : l_X7_mutualOf_4 x1 s yb_N x2 x3 = some out) : Rn G RX7 cX7_mutualOf 4 (Option.some .int) false (yb_rm 1) (yb_qi X s out) 0 0 4 [some (.ref (yb_ad G 41)), some (.int x1), some (.int x2), some (.int x3)] [] (yb_mk s X) := t_l_X7_mutualOf_4 _ _ _ h
set_option maxHeartbeats 4000000 in
set_option maxRecDepth 20000 in
theorem t_X7_mutualOf {G : yb_G} {X : List (FieldType × Nat)} {a1 : Int32} {s : yb_S} {out : Int32} (h : f_X7_mutualOf a1 s = some out) : Ct G yX7_mutualOf cX7_mutualOf 4 (Option.some .int) (yb_rm 1) [.ref (yb_ad G 41), .int a1] (yb_mk s X) (yb_qi X s out) := by
  refine Ct.of (own := RX7) (ini := false) (vs := [some (.ref (yb_ad G 41)), some (.int a1), none, none]) ⟨rfl, by decide +kernel⟩ (fun h => by cases h) (Nat.le_of_ble_eq_true rfl) rfl ?_
  unfold f_X7_mutualOf at h
  refine n_iconst (0 : Int32) dX7_mutualOf_0 ic_0 ?_
  refine n_istore_n (i := 2) (vs' := [some (.ref (yb_ad G 41)), some (.int a1), some (.int (0 : Int32)), none]) dX7_mutualOf_1 rfl (Nat.le_of_ble_eq_true rfl) rfl rfl ?_
  refine n_iconst (0 : Int32) dX7_mutualOf_2 ic_0 ?_
  refine n_istore_n (i := 3) (vs' := [some (.ref (yb_ad G 41)), some (.int a1), some (.int (0 : Int32)), some (.int (0 : Int32))]) dX7_mutualOf_3 rfl (Nat.le_of_ble_eq_true rfl) rfl rfl ?_
  exact p_jump (tl_X7_mutualOf_4 h) (And.intro rfl (And.intro rfl (And.intro rfl (And.intro rfl trivial))))
set_option maxHeartbeats 4000000 in
set_option maxRecDepth 20000 in
theorem t_X11_mutual {G : yb_G} {X : List (FieldType × Nat)} {a1 : Int32} {s : yb_S} {out : Int32} (h : f_X11_mutual a1 s = some out) : Ct G yX11_mutual cX11_mutual 2 (Option.some .int) (yb_rm 2) [.ref (yb_ad G 0), .int a1] (yb_mk s X) (yb_qi X s out) := by
  refine Ct.of (own := RX11) (ini := false) (vs := [some (.ref (yb_ad G 0)), some (.int a1)]) ⟨rfl, by decide +kernel⟩ (fun h => by cases h) (Nat.le_of_ble_eq_true rfl) rfl ?_
  unfold f_X11_mutual at h
  refine n_aload_n (i := 0) dX11_mutual_0 rfl rfl ?_
  refine p_getr fl_X11_10 (sh_0 _ _) rfl (rR_0_0 _ _) dX11_mutual_1 ?_
  refine p_getr fl_X11_100 (sh_1 _ _) rfl (rR_1_2 _ _) dX11_mutual_4 ?_
  refine n_iload_n (i := 1) dX11_mutual_7 rfl rfl ?_
  obtain ⟨q1, hq1, h⟩ := yb_bind h
  refine p_callVi (As := [.int a1]) (t_X2_has hq1) cv_X11_127 (sh_21 _ _) rfl rfl (Nat.le_of_ble_eq_true rfl) dX11_mutual_8 (yb_rok (Nat.le_of_ble_eq_true rfl) (by decide)) ⟨rfl, rfl⟩ ⟨Nat.le_refl _, Nat.le_refl _⟩ (fun k2 => ?_)
  refine n_if_eq 28 dX11_mutual_11 (by decide) (fun c3 => ?_) (fun c3 => ?_)
  · have h := yb_ifp c3 h
    refine n_iconst (-1 : Int32) dX11_mutual_28 ic_m1 ?_
    cases h
    exact n_iret dX11_mutual_29 rfl rfl (Nat.le_refl _) (Nat.le_refl _) ⟨rfl, rfl⟩
  · have h := yb_ifn c3 h
    refine n_aload_n (i := 0) dX11_mutual_14 rfl rfl ?_
    refine p_getr fl_X11_10 (sh_0 _ _) rfl (rR_0_0 _ _) dX11_mutual_15 ?_
    refine p_getr fl_X11_128 (sh_1 _ _) rfl (rR_1_3 _ _) dX11_mutual_18 ?_
    refine n_iload_n (i := 1) dX11_mutual_21 rfl rfl ?_
    obtain ⟨q4, hq4, h⟩ := yb_bind h
    refine p_callVi (As := [.int a1]) (t_X7_mutualOf hq4) cv_X11_178 (sh_41 _ _) rfl rfl (Nat.le_of_ble_eq_true rfl) dX11_mutual_22 (yb_rok (Nat.le_of_ble_eq_true rfl) (by decide)) ⟨rfl, rfl⟩ ⟨Nat.le_refl _, Nat.le_refl _⟩ (fun k5 => ?_)
    refine n_goto 29 dX11_mutual_25 (by decide) ?_
    cases h
    exact n_iret dX11_mutual_29 rfl rfl (Nat.le_refl _) (Nat.le_refl _) ⟨rfl, rfl⟩
set_option maxHeartbeats 4000000 in
set_option maxRecDepth 20000 in
theorem t_X11_night {G : yb_G} {X : List (FieldType × Nat)} {a1 : Int32} {a2 : Int32} {s : yb_S} {out : Int32} (h : f_X11_night a1 a2 s = some out) : Ct G yX11_night cX11_night 3 (Option.some .int) (yb_rm 2) [.ref (yb_ad G 0), .int a1, .int a2] (yb_mk s X) (yb_qi X s out) := by
  refine Ct.of (own := RX11) (ini := false) (vs := [some (.ref (yb_ad G 0)), some (.int a1), some (.int a2)]) ⟨rfl, by decide +kernel⟩ (fun h => by cases h) (Nat.le_of_ble_eq_true rfl) rfl ?_
  unfold f_X11_night at h
  refine n_aload_n (i := 0) dX11_night_0 rfl rfl ?_
  refine p_getr fl_X11_10 (sh_0 _ _) rfl (rR_0_0 _ _) dX11_night_1 ?_
  refine p_getr fl_X11_100 (sh_1 _ _) rfl (rR_1_2 _ _) dX11_night_4 ?_
  refine n_iload_n (i := 1) dX11_night_7 rfl rfl ?_
  obtain ⟨q1, hq1, h⟩ := yb_bind h
  refine p_callVi (As := [.int a1]) (t_X2_has hq1) cv_X11_127 (sh_21 _ _) rfl rfl (Nat.le_of_ble_eq_true rfl) dX11_night_8 (yb_rok (Nat.le_of_ble_eq_true rfl) (by decide)) ⟨rfl, rfl⟩ ⟨Nat.le_refl _, Nat.le_refl _⟩ (fun k2 => ?_)
  refine n_if_eq 38 dX11_night_11 (by decide) (fun c3 => ?_) (fun c3 => ?_)
  · have h := yb_ifp c3 h
    refine n_iconst (-1 : Int32) dX11_night_38 ic_m1 ?_
    cases h
    exact n_iret dX11_night_39 rfl rfl (Nat.le_refl _) (Nat.le_refl _) ⟨rfl, rfl⟩
  · have h := yb_ifn c3 h
    refine n_iload_n (i := 2) dX11_night_14 rfl rfl ?_
    refine n_aload_n (i := 0) dX11_night_15 rfl rfl ?_
    refine p_getr fl_X11_10 (sh_0 _ _) rfl (rR_0_0 _ _) dX11_night_16 ?_
    refine p_getr fl_X11_100 (sh_1 _ _) rfl (rR_1_2 _ _) dX11_night_19 ?_
    refine p_getr fl_X11_268 (sh_21 _ _) rfl (rR_21_11 _ _) dX11_night_22 ?_
    refine n_iload_n (i := 1) dX11_night_25 rfl rfl ?_
    obtain ⟨v4, hv4, h⟩ := yb_bind h
    refine p_iald hv4 (sh_32 _ _) dX11_night_26 ?_
    refine n_icmp_lt 38 dX11_night_27 (by decide) (fun c5 => ?_) (fun c5 => ?_)
    · have h := yb_ifp c5 h
      refine n_iconst (-1 : Int32) dX11_night_38 ic_m1 ?_
      cases h
      exact n_iret dX11_night_39 rfl rfl (Nat.le_refl _) (Nat.le_refl _) ⟨rfl, rfl⟩
    · have h := yb_ifn c5 h
      refine n_aload_n (i := 0) dX11_night_30 rfl rfl ?_
      refine n_iload_n (i := 2) dX11_night_31 rfl rfl ?_
      obtain ⟨q6, hq6, h⟩ := yb_bind h
      refine p_callVi (As := [.int a2]) (t_X11_hasEnded hq6) cv_X11_271 (sh_0 _ _) rfl rfl (Nat.le_of_ble_eq_true rfl) dX11_night_32 (yb_rok (Nat.le_of_ble_eq_true rfl) (by decide)) ⟨rfl, rfl⟩ ⟨Nat.le_refl _, Nat.le_refl _⟩ (fun k7 => ?_)
      refine n_if_ne 40 dX11_night_35 (by decide) (fun c8 => ?_) (fun c8 => ?_)
      · have h := yb_ifn c8 h
        refine n_aload_n (i := 0) dX11_night_40 rfl rfl ?_
        refine p_getr fl_X11_42 (sh_0 _ _) rfl (rR_0_4 _ _) dX11_night_41 ?_
        refine p_getr fl_X11_274 (sh_137 _ _) rfl (rR_137_0 _ _) dX11_night_44 ?_
        refine n_iload_n (i := 1) dX11_night_47 rfl rfl ?_
        obtain ⟨r9, hr9, h⟩ := yb_bind h
        refine p_aald hr9 (sh_138 _ _) (by decide) rfl (rF_138 _ _) dX11_night_48 ?_
        refine n_iload_n (i := 2) dX11_night_49 rfl rfl ?_
        obtain ⟨v10, hv10, h⟩ := yb_bind h
        refine p_iald hv10 (shF_138 hr9 _ _) dX11_night_50 ?_
        cases h
        exact n_iret dX11_night_51 rfl rfl (Nat.le_refl _) (Nat.le_refl _) ⟨rfl, rfl⟩
      · have h := yb_ifp c8 h
        refine n_iconst (-1 : Int32) dX11_night_38 ic_m1 ?_
        cases h
        exact n_iret dX11_night_39 rfl rfl (Nat.le_refl _) (Nat.le_refl _) ⟨rfl, rfl⟩
set_option maxHeartbeats 4000000 in
set_option maxRecDepth 20000 in
theorem t_l_X7_findAnew_30 {G : yb_G} {X : List (FieldType × Nat)} {out : yb_S} : ∀ (k0 : Nat) (x1 : Int32) (s : yb_S), l_X7_findAnew_30 k0 x1 s = some out → Rn G RX7 cX7_findAnew 2 none false (yb_rm 5) (yb_qv X out) 0 0 30 [some (.ref (yb_ad G 41)), some (.int x1)] [] (yb_mk s X) := by
  intro k0
  induction k0 with
  | zero => intro x1 s h; cases h
  | succ k0 ih =>
    intro x1 s h
    have h : f_X7_findAnew_30 (fun x1 s => l_X7_findAnew_30 k0 x1 s) x1 s = some out := h
    have hrc30 := ih
    unfold f_X7_findAnew_30 at h
    refine n_iload_n (i := 1) dX7_findAnew_30 rfl rfl ?_
    refine n_aload_n (i := 0) dX7_findAnew_31 rfl rfl ?_
    refine p_geti fl_X7_48 (sh_41 _ _) rfl dX7_findAnew_32 ?_
    refine n_icmp_ge 49 dX7_findAnew_35 (by decide) (fun c2 => ?_) (fun c2 => ?_)
    · have h := yb_ifp c2 h
      cases h
      exact n_vret dX7_findAnew_49 rfl (Nat.le_refl _) (Nat.le_refl _) ⟨rfl, rfl⟩
    · have h := yb_ifn c2 h
      refine n_aload_n (i := 0) dX7_findAnew_38 rfl rfl ?_
      refine n_iload_n (i := 1) dX7_findAnew_39 rfl rfl ?_
      obtain ⟨q3, hq3, h⟩ := yb_bind h
      refine p_callVv (As := [.int x1]) (t_X7_noteFinding hq3) cv_X7_52 (sh_41 _ _) rfl rfl (Nat.le_of_ble_eq_true rfl) dX7_findAnew_40 (yb_rok (Nat.le_of_ble_eq_true rfl) (by decide)) ⟨rfl, rfl⟩ ⟨Nat.le_refl _, Nat.le_refl _⟩ (fun k4 => ?_)
      refine n_iinc (vs' := [some (.ref (yb_ad G 41)), some (.int (x1 + (1 : Int32)))]) dX7_findAnew_43 rfl (ii_1 _) (Nat.le_of_ble_eq_true rfl) rfl rfl ?_
      refine n_goto 30 dX7_findAnew_46 (by decide) ?_
      exact p_jump (hrc30 (x1 + (1 : Int32)) q3 h) (And.intro rfl (And.intro rfl trivial))
set_option maxHeartbeats 4000000 in
set_option maxRecDepth 20000 in
theorem tl_X7_findAnew_30 {G : yb_G} {X : List (FieldType × Nat)} {out : yb_S} {x1 : Int32} {s : yb_S} (h : l_X7_findAnew_30 yb_N x1 s = some out) : Rn G RX7 cX7_findAnew 2 none false (yb_rm 5) (yb_qv X out) 0 0 30 [some (.ref (yb_ad G 41)), some (.int x1)] [] (yb_mk s X) := t_l_X7_findAnew_30 _ _ _ h
set_option maxHeartbeats 4000000 in
set_option maxRecDepth 20000 in
theorem t_l_X7_findAnew_2 {G : yb_G} {X : List (FieldType × Nat)} {out : yb_S} : ∀ (k0 : Nat) (x1 : Int32) (s : yb_S), l_X7_findAnew_2 k0 x1 s = some out → Rn G RX7 cX7_findAnew 2 none false (yb_rm 5) (yb_qv X out) 0 0 2 [some (.ref (yb_ad G 41)), some (.int x1)] [] (yb_mk s X) := by
  intro k0
  induction k0 with
  | zero => intro x1 s h; cases h
  | succ k0 ih =>
    intro x1 s h
    have h : f_X7_findAnew_2 (fun x1 s => l_X7_findAnew_2 k0 x1 s) x1 s = some out := h
    have hrc2 := ih
    unfold f_X7_findAnew_2 at h
    refine n_iload_n (i := 1) dX7_findAnew_2 rfl rfl ?_
    refine n_bipush (24 : Int32) dX7_findAnew_3 bp_24 ?_
    refine n_icmp_ge 28 dX7_findAnew_5 (by decide) (fun c1 => ?_) (fun c1 => ?_)
    · have h := yb_ifp c1 h
      refine n_iconst (0 : Int32) dX7_findAnew_28 ic_0 ?_
      refine n_istore_n (i := 1) (vs' := [some (.ref (yb_ad G 41)), some (.int (0 : Int32))]) dX7_findAnew_29 rfl (Nat.le_of_ble_eq_true rfl) rfl rfl ?_
      exact p_jump (tl_X7_findAnew_30 h) (And.intro rfl (And.intro rfl trivial))
    · have h := yb_ifn c1 h
      refine n_aload_n (i := 0) dX7_findAnew_8 rfl rfl ?_
      refine p_getr fl_X7_42 (sh_41 _ _) rfl (rR_41_12 _ _) dX7_findAnew_9 ?_
      refine n_iload_n (i := 1) dX7_findAnew_12 rfl rfl ?_
      refine n_iconst (0 : Int32) dX7_findAnew_13 ic_0 ?_
      obtain ⟨s5, hs5, h⟩ := yb_bind h
      refine p_iast hs5 (sh_52 _ _) dX7_findAnew_14 ?_
      refine n_aload_n (i := 0) dX7_findAnew_15 rfl rfl ?_
      refine p_getr fl_X7_45 (sh_41 _ _) rfl (rR_41_13 _ _) dX7_findAnew_16 ?_
      refine n_iload_n (i := 1) dX7_findAnew_19 rfl rfl ?_
      refine n_iconst (0 : Int32) dX7_findAnew_20 ic_0 ?_
      obtain ⟨s6, hs6, h⟩ := yb_bind h
      refine p_iast hs6 (sh_53 _ _) dX7_findAnew_21 ?_
      refine n_iinc (vs' := [some (.ref (yb_ad G 41)), some (.int (x1 + (1 : Int32)))]) dX7_findAnew_22 rfl (ii_1 _) (Nat.le_of_ble_eq_true rfl) rfl rfl ?_
      refine n_goto 2 dX7_findAnew_25 (by decide) ?_
      exact p_jump (hrc2 (x1 + (1 : Int32)) s6 h) (And.intro rfl (And.intro rfl trivial))
set_option maxHeartbeats 4000000 in
set_option maxRecDepth 20000 in
theorem tl_X7_findAnew_2 {G : yb_G} {X : List (FieldType × Nat)} {out : yb_S} {x1 : Int32} {s : yb_S} (h : l_X7_findAnew_2 yb_N x1 s = some out) : Rn G RX7 cX7_findAnew 2 none false (yb_rm 5) (yb_qv X out) 0 0 2 [some (.ref (yb_ad G 41)), some (.int x1)] [] (yb_mk s X) := t_l_X7_findAnew_2 _ _ _ h
set_option maxHeartbeats 4000000 in
set_option maxRecDepth 20000 in
theorem t_X7_findAnew {G : yb_G} {X : List (FieldType × Nat)} {s : yb_S} {out : yb_S} (h : f_X7_findAnew s = some out) : Ct G yX7_findAnew cX7_findAnew 2 none (yb_rm 5) [.ref (yb_ad G 41)] (yb_mk s X) (yb_qv X out) := by
  refine Ct.of (own := RX7) (ini := false) (vs := [some (.ref (yb_ad G 41)), none]) ⟨rfl, by decide +kernel⟩ (fun h => by cases h) (Nat.le_of_ble_eq_true rfl) rfl ?_
  unfold f_X7_findAnew at h
  refine n_iconst (0 : Int32) dX7_findAnew_0 ic_0 ?_
  refine n_istore_n (i := 1) (vs' := [some (.ref (yb_ad G 41)), some (.int (0 : Int32))]) dX7_findAnew_1 rfl (Nat.le_of_ble_eq_true rfl) rfl rfl ?_
  exact p_jump (tl_X7_findAnew_2 h) (And.intro rfl (And.intro rfl trivial))
set_option maxHeartbeats 4000000 in
set_option maxRecDepth 20000 in
theorem tj_X7_partHeap_54 {G : yb_G} {X : List (FieldType × Nat)} {rc22 : (Int32 → Int32 → yb_S → Option (Int32 × yb_S))} {x2 : Int32} {x3 : Int32} {x4 : Int32} {s : yb_S} {out : (Int32 × yb_S)} (hrc22 : ∀ (x3' : Int32) (x4' : Int32) (s' : yb_S), rc22 x3' x4' s' = some out → Rn G RX7 cX7_partHeap 5 (Option.some .int) false (yb_rm 6) (yb_qi X out.2 out.1) 0 0 22 [some (.ref (yb_ad G 41)), none, some (.int x2), some (.int x3'), some (.int x4')] [] (yb_mk s' X)) (h : j_X7_partHeap_54 rc22 x2 x3 x4 s = some out) : Rn G RX7 cX7_partHeap 5 (Option.some .int) false (yb_rm 6) (yb_qi X out.2 out.1) 0 0 54 [some (.ref (yb_ad G 41)), none, some (.int x2), some (.int x3), some (.int x4)] [] (yb_mk s X) := by
  unfold j_X7_partHeap_54 at h
  refine n_iinc (vs' := [some (.ref (yb_ad G 41)), none, some (.int x2), some (.int x3), some (.int (x4 + (1 : Int32)))]) dX7_partHeap_54 rfl (ii_1 _) (Nat.le_of_ble_eq_true rfl) rfl rfl ?_
  refine n_goto 22 dX7_partHeap_57 (by decide) ?_
  exact p_jump (hrc22 x3 (x4 + (1 : Int32)) s h) (And.intro rfl (And.intro rfl (And.intro rfl (And.intro rfl trivial))))
set_option maxHeartbeats 4000000 in
set_option maxRecDepth 20000 in
theorem t_l_X7_partHeap_22 {G : yb_G} {X : List (FieldType × Nat)} {x2 : Int32} {out : (Int32 × yb_S)} : ∀ (k0 : Nat) (x3 : Int32) (x4 : Int32) (s : yb_S), l_X7_partHeap_22 x2 k0 x3 x4 s = some out → Rn G RX7 cX7_partHeap 5 (Option.some .int) false (yb_rm 6) (yb_qi X out.2 out.1) 0 0 22 [some (.ref (yb_ad G 41)), none, some (.int x2), some (.int x3), some (.int x4)] [] (yb_mk s X) := by
  intro k0
  induction k0 with
  | zero => intro x3 x4 s h; cases h
  | succ k0 ih =>
    intro x3 x4 s h
    have h : f_X7_partHeap_22 (fun x3 x4 s => l_X7_partHeap_22 x2 k0 x3 x4 s) x2 x3 x4 s = some out := h
    have hrc22 := ih
    unfold f_X7_partHeap_22 at h
    refine n_iload dX7_partHeap_22 rfl ?_
    refine n_aload_n (i := 0) dX7_partHeap_24 rfl rfl ?_
    refine p_geti fl_X7_48 (sh_41 _ _) rfl dX7_partHeap_25 ?_
    refine n_icmp_ge 60 dX7_partHeap_28 (by decide) (fun c5 => ?_) (fun c5 => ?_)
    · have h := yb_ifp c5 h
      refine n_aload_n (i := 0) dX7_partHeap_60 rfl rfl ?_
      obtain ⟨q6, hq6, h⟩ := yb_bind h
      refine p_callVv (As := []) (t_X7_findAnew hq6) cv_X7_80 (sh_41 _ _) rfl rfl (Nat.le_of_ble_eq_true rfl) dX7_partHeap_61 (yb_rok (Nat.le_of_ble_eq_true rfl) (by decide)) ⟨rfl, rfl⟩ ⟨Nat.le_refl _, Nat.le_refl _⟩ (fun k7 => ?_)
      refine n_iload_n (i := 3) dX7_partHeap_64 rfl rfl ?_
      cases h
      exact n_iret dX7_partHeap_65 rfl rfl (Nat.le_refl _) (Nat.le_refl _) ⟨rfl, rfl⟩
    · have h := yb_ifn c5 h
      refine n_aload_n (i := 0) dX7_partHeap_31 rfl rfl ?_
      refine p_getr fl_X7_30 (sh_41 _ _) rfl (rR_41_7 _ _) dX7_partHeap_32 ?_
      refine n_iload dX7_partHeap_35 rfl ?_
      obtain ⟨v8, hv8, h⟩ := yb_bind h
      refine p_iald hv8 (sh_48 _ _) dX7_partHeap_37 ?_
      refine n_iload_n (i := 2) dX7_partHeap_38 rfl rfl ?_
      refine n_icmp_ne 54 dX7_partHeap_39 (by decide) (fun c9 => ?_) (fun c9 => ?_)
      · have h := yb_ifn c9 h
        exact p_jump (tj_X7_partHeap_54 hrc22 h) (And.intro rfl (And.intro rfl (And.intro rfl (And.intro rfl trivial))))
      · have h := yb_ifp c9 h
        refine n_aload_n (i := 0) dX7_partHeap_42 rfl rfl ?_
        refine p_getr fl_X7_30 (sh_41 _ _) rfl (rR_41_7 _ _) dX7_partHeap_43 ?_
        refine n_iload dX7_partHeap_46 rfl ?_
        refine n_iload dX7_partHeap_48 rfl ?_
        obtain ⟨s10, hs10, h⟩ := yb_bind h
        refine p_iast hs10 (sh_48 _ _) dX7_partHeap_50 ?_
        refine n_iinc (vs' := [some (.ref (yb_ad G 41)), none, some (.int x2), some (.int (x3 + (1 : Int32))), some (.int x4)]) dX7_partHeap_51 rfl (ii_1 _) (Nat.le_of_ble_eq_true rfl) rfl rfl ?_
        exact p_jump (tj_X7_partHeap_54 hrc22 h) (And.intro rfl (And.intro rfl (And.intro rfl (And.intro rfl trivial))))
set_option maxHeartbeats 4000000 in
set_option maxRecDepth 20000 in
theorem tl_X7_partHeap_22 {G : yb_G} {X : List (FieldType × Nat)} {x2 : Int32} {out : (Int32 × yb_S)} {x3 : Int32} {x4 : Int32} {s : yb_S} (h : l_X7_partHeap_22 x2 yb_N x3 x4 s = some out) : Rn G RX7 cX7_partHeap 5 (Option.some .int) false (yb_rm 6) (yb_qi X out.2 out.1) 0 0 22 [some (.ref (yb_ad G 41)), none, some (.int x2), some (.int x3), some (.int x4)] [] (yb_mk s X) := t_l_X7_partHeap_22 _ _ _ _ h
set_option maxHeartbeats 4000000 in
set_option maxRecDepth 20000 in
theorem t_X7_partHeap {G : yb_G} {X : List (FieldType × Nat)} {a1 : Int32} {s : yb_S} {out : (Int32 × yb_S)} (h : f_X7_partHeap a1 s = some out) : Ct G yX7_partHeap cX7_partHeap 5 (Option.some .int) (yb_rm 6) [.ref (yb_ad G 41), .int a1] (yb_mk s X) (yb_qi X out.2 out.1) := by
  refine Ct.of (own := RX7) (ini := false) (vs := [some (.ref (yb_ad G 41)), some (.int a1), none, none, none]) ⟨rfl, by decide +kernel⟩ (fun h => by cases h) (Nat.le_of_ble_eq_true rfl) rfl ?_
  unfold f_X7_partHeap at h
  refine n_aload_n (i := 0) dX7_partHeap_0 rfl rfl ?_
  refine n_iload_n (i := 1) dX7_partHeap_1 rfl rfl ?_
  obtain ⟨q1, hq1, h⟩ := yb_bind h
  refine p_callVi (As := [.int a1]) (t_X7_has hq1) cv_X7_56 (sh_41 _ _) rfl rfl (Nat.le_of_ble_eq_true rfl) dX7_partHeap_2 (yb_rok (Nat.le_of_ble_eq_true rfl) (by decide)) ⟨rfl, rfl⟩ ⟨Nat.le_refl _, Nat.le_refl _⟩ (fun k2 => ?_)
  refine n_if_ne 10 dX7_partHeap_5 (by decide) (fun c3 => ?_) (fun c3 => ?_)
  · have h := yb_ifn c3 h
    refine n_aload_n (i := 0) dX7_partHeap_10 rfl rfl ?_
    refine p_getr fl_X7_30 (sh_41 _ _) rfl (rR_41_7 _ _) dX7_partHeap_11 ?_
    refine n_iload_n (i := 1) dX7_partHeap_14 rfl rfl ?_
    obtain ⟨v4, hv4, h⟩ := yb_bind h
    refine p_iald hv4 (sh_48 _ _) dX7_partHeap_15 ?_
    refine n_istore_n (i := 2) (vs' := [some (.ref (yb_ad G 41)), some (.int a1), some (.int v4), none, none]) dX7_partHeap_16 rfl (Nat.le_of_ble_eq_true rfl) rfl rfl ?_
    refine n_iconst (0 : Int32) dX7_partHeap_17 ic_0 ?_
    refine n_istore_n (i := 3) (vs' := [some (.ref (yb_ad G 41)), some (.int a1), some (.int v4), some (.int (0 : Int32)), none]) dX7_partHeap_18 rfl (Nat.le_of_ble_eq_true rfl) rfl rfl ?_
    refine n_iconst (0 : Int32) dX7_partHeap_19 ic_0 ?_
    refine n_istore (i := 4) (vs' := [some (.ref (yb_ad G 41)), some (.int a1), some (.int v4), some (.int (0 : Int32)), some (.int (0 : Int32))]) dX7_partHeap_20 (Nat.le_of_ble_eq_true rfl) rfl rfl ?_
    exact p_jump (tl_X7_partHeap_22 h) (And.intro rfl (And.intro rfl (And.intro rfl (And.intro rfl trivial))))
  · have h := yb_ifp c3 h
    refine n_iconst (-1 : Int32) dX7_partHeap_8 ic_m1 ?_
    cases h
    exact n_iret dX7_partHeap_9 rfl rfl (Nat.le_refl _) (Nat.le_refl _) ⟨rfl, rfl⟩
set_option maxHeartbeats 4000000 in
set_option maxRecDepth 20000 in
theorem t_X11_part {G : yb_G} {X : List (FieldType × Nat)} {a1 : Int32} {s : yb_S} {out : (Int32 × yb_S)} (h : f_X11_part a1 s = some out) : Ct G yX11_part cX11_part 2 (Option.some .int) (yb_rm 7) [.ref (yb_ad G 0), .int a1] (yb_mk s X) (yb_qi X out.2 out.1) := by
  refine Ct.of (own := RX11) (ini := false) (vs := [some (.ref (yb_ad G 0)), some (.int a1)]) ⟨rfl, by decide +kernel⟩ (fun h => by cases h) (Nat.le_of_ble_eq_true rfl) rfl ?_
  unfold f_X11_part at h
  refine n_aload_n (i := 0) dX11_part_0 rfl rfl ?_
  refine p_getr fl_X11_10 (sh_0 _ _) rfl (rR_0_0 _ _) dX11_part_1 ?_
  refine p_getr fl_X11_128 (sh_1 _ _) rfl (rR_1_3 _ _) dX11_part_4 ?_
  refine n_iload_n (i := 1) dX11_part_7 rfl rfl ?_
  obtain ⟨q1, hq1, h⟩ := yb_bind h
  refine p_callVi (As := [.int a1]) (t_X7_partHeap hq1) cv_X11_161 (sh_41 _ _) rfl rfl (Nat.le_of_ble_eq_true rfl) dX11_part_8 (yb_rok (Nat.le_of_ble_eq_true rfl) (by decide)) ⟨rfl, rfl⟩ ⟨Nat.le_refl _, Nat.le_refl _⟩ (fun k2 => ?_)
  cases h
  exact n_iret dX11_part_11 rfl rfl (Nat.le_refl _) (Nat.le_refl _) ⟨rfl, rfl⟩
set_option maxHeartbeats 4000000 in
set_option maxRecDepth 20000 in
theorem t_X6_whyPassed {G : yb_G} {X : List (FieldType × Nat)} {a1 : Int32} {a2 : Int32} {s : yb_S} {out : Int32} (h : f_X6_whyPassed a1 a2 s = some out) : Ct G yX6_whyPassed cX6_whyPassed 3 (Option.some .int) (yb_rm 1) [.ref (yb_ad G 100), .int a1, .int a2] (yb_mk s X) (yb_qi X s out) := by
  refine Ct.of (own := RX6) (ini := false) (vs := [some (.ref (yb_ad G 100)), some (.int a1), some (.int a2)]) ⟨rfl, by decide +kernel⟩ (fun h => by cases h) (Nat.le_of_ble_eq_true rfl) rfl ?_
  unfold f_X6_whyPassed at h
  refine n_iload_n (i := 1) dX6_whyPassed_0 rfl rfl ?_
  refine n_if_lt 35 dX6_whyPassed_1 (by decide) (fun c1 => ?_) (fun c1 => ?_)
  · have h := yb_ifp c1 h
    refine n_iconst (-1 : Int32) dX6_whyPassed_35 ic_m1 ?_
    cases h
    exact n_iret dX6_whyPassed_36 rfl rfl (Nat.le_refl _) (Nat.le_refl _) ⟨rfl, rfl⟩
  · have h := yb_ifn c1 h
    refine n_iload_n (i := 1) dX6_whyPassed_4 rfl rfl ?_
    refine n_aload_n (i := 0) dX6_whyPassed_5 rfl rfl ?_
    refine p_geti fl_X6_39 (sh_100 _ _) rfl dX6_whyPassed_6 ?_
    refine n_icmp_ge 35 dX6_whyPassed_9 (by decide) (fun c2 => ?_) (fun c2 => ?_)
    · have h := yb_ifp c2 h
      refine n_iconst (-1 : Int32) dX6_whyPassed_35 ic_m1 ?_
      cases h
      exact n_iret dX6_whyPassed_36 rfl rfl (Nat.le_refl _) (Nat.le_refl _) ⟨rfl, rfl⟩
    · have h := yb_ifn c2 h
      refine n_iload_n (i := 2) dX6_whyPassed_12 rfl rfl ?_
      refine n_if_lt 35 dX6_whyPassed_13 (by decide) (fun c3 => ?_) (fun c3 => ?_)
      · have h := yb_ifp c3 h
        refine n_iconst (-1 : Int32) dX6_whyPassed_35 ic_m1 ?_
        cases h
        exact n_iret dX6_whyPassed_36 rfl rfl (Nat.le_refl _) (Nat.le_refl _) ⟨rfl, rfl⟩
      · have h := yb_ifn c3 h
        refine n_iload_n (i := 2) dX6_whyPassed_16 rfl rfl ?_
        refine n_aload_n (i := 0) dX6_whyPassed_17 rfl rfl ?_
        refine p_geti fl_X6_39 (sh_100 _ _) rfl dX6_whyPassed_18 ?_
        refine n_icmp_ge 35 dX6_whyPassed_21 (by decide) (fun c4 => ?_) (fun c4 => ?_)
        · have h := yb_ifp c4 h
          refine n_iconst (-1 : Int32) dX6_whyPassed_35 ic_m1 ?_
          cases h
          exact n_iret dX6_whyPassed_36 rfl rfl (Nat.le_refl _) (Nat.le_refl _) ⟨rfl, rfl⟩
        · have h := yb_ifn c4 h
          refine n_aload_n (i := 0) dX6_whyPassed_24 rfl rfl ?_
          refine p_getr fl_X6_20 (sh_100 _ _) rfl (rR_100_3 _ _) dX6_whyPassed_25 ?_
          refine n_iload_n (i := 1) dX6_whyPassed_28 rfl rfl ?_
          obtain ⟨r5, hr5, h⟩ := yb_bind h
          refine p_aald hr5 (sh_103 _ _) (by decide) rfl (rF_103 _ _) dX6_whyPassed_29 ?_
          refine n_iload_n (i := 2) dX6_whyPassed_30 rfl rfl ?_
          obtain ⟨v6, hv6, h⟩ := yb_bind h
          refine p_iald hv6 (shF_103 hr5 _ _) dX6_whyPassed_31 ?_
          refine n_goto 36 dX6_whyPassed_32 (by decide) ?_
          cases h
          exact n_iret dX6_whyPassed_36 rfl rfl (Nat.le_refl _) (Nat.le_refl _) ⟨rfl, rfl⟩
set_option maxHeartbeats 4000000 in
set_option maxRecDepth 20000 in
theorem t_X11_passed {G : yb_G} {X : List (FieldType × Nat)} {a1 : Int32} {a2 : Int32} {s : yb_S} {out : Int32} (h : f_X11_passed a1 a2 s = some out) : Ct G yX11_passed cX11_passed 3 (Option.some .int) (yb_rm 2) [.ref (yb_ad G 0), .int a1, .int a2] (yb_mk s X) (yb_qi X s out) := by
  refine Ct.of (own := RX11) (ini := false) (vs := [some (.ref (yb_ad G 0)), some (.int a1), some (.int a2)]) ⟨rfl, by decide +kernel⟩ (fun h => by cases h) (Nat.le_of_ble_eq_true rfl) rfl ?_
  unfold f_X11_passed at h
  refine n_aload_n (i := 0) dX11_passed_0 rfl rfl ?_
  refine p_getr fl_X11_28 (sh_0 _ _) rfl (rR_0_2 _ _) dX11_passed_1 ?_
  refine n_iload_n (i := 1) dX11_passed_4 rfl rfl ?_
  refine n_iload_n (i := 2) dX11_passed_5 rfl rfl ?_
  obtain ⟨q1, hq1, h⟩ := yb_bind h
  refine p_callVi (As := [.int a1, .int a2]) (t_X6_whyPassed hq1) cv_X11_237 (sh_100 _ _) rfl rfl (Nat.le_of_ble_eq_true rfl) dX11_passed_6 (yb_rok (Nat.le_of_ble_eq_true rfl) (by decide)) ⟨rfl, rfl⟩ ⟨Nat.le_refl _, Nat.le_refl _⟩ (fun k2 => ?_)
  cases h
  exact n_iret dX11_passed_9 rfl rfl (Nat.le_refl _) (Nat.le_refl _) ⟨rfl, rfl⟩
set_option maxHeartbeats 4000000 in
set_option maxRecDepth 20000 in
theorem t_l_X6_forgetWhys_26 {G : yb_G} {X : List (FieldType × Nat)} {rc16 : (Int32 → yb_S → Option yb_S)} {x1 : Int32} {out : yb_S} (hrc16 : ∀ (x1' : Int32) (s' : yb_S), rc16 x1' s' = some out → Rn G RX6 cX6_forgetWhys 3 none false (yb_rm 1) (yb_qv X out) 0 0 16 [some (.ref (yb_ad G 100)), some (.int x1'), none] [] (yb_mk s' X)) : ∀ (k0 : Nat) (x2 : Int32) (s : yb_S), l_X6_forgetWhys_26 rc16 x1 k0 x2 s = some out → Rn G RX6 cX6_forgetWhys 3 none false (yb_rm 1) (yb_qv X out) 0 0 26 [some (.ref (yb_ad G 100)), some (.int x1), some (.int x2)] [] (yb_mk s X) := by
  intro k0
  induction k0 with
  | zero => intro x2 s h; cases h
  | succ k0 ih =>
    intro x2 s h
    have h : f_X6_forgetWhys_26 rc16 (fun x2 s => l_X6_forgetWhys_26 rc16 x1 k0 x2 s) x1 x2 s = some out := h
    have hrc26 := ih
    unfold f_X6_forgetWhys_26 at h
    refine n_iload_n (i := 2) dX6_forgetWhys_26 rfl rfl ?_
    refine n_aload_n (i := 0) dX6_forgetWhys_27 rfl rfl ?_
    refine p_geti fl_X6_39 (sh_100 _ _) rfl dX6_forgetWhys_28 ?_
    refine n_icmp_ge 49 dX6_forgetWhys_31 (by decide) (fun c3 => ?_) (fun c3 => ?_)
    · have h := yb_ifp c3 h
      refine n_iinc (vs' := [some (.ref (yb_ad G 100)), some (.int (x1 + (1 : Int32))), some (.int x2)]) dX6_forgetWhys_49 rfl (ii_1 _) (Nat.le_of_ble_eq_true rfl) rfl rfl ?_
      refine n_goto 16 dX6_forgetWhys_52 (by decide) ?_
      exact p_jump (hrc16 (x1 + (1 : Int32)) s h) (And.intro rfl (And.intro rfl trivial))
    · have h := yb_ifn c3 h
      refine n_aload_n (i := 0) dX6_forgetWhys_34 rfl rfl ?_
      refine p_getr fl_X6_20 (sh_100 _ _) rfl (rR_100_3 _ _) dX6_forgetWhys_35 ?_
      refine n_iload_n (i := 1) dX6_forgetWhys_38 rfl rfl ?_
      obtain ⟨r4, hr4, h⟩ := yb_bind h
      refine p_aald hr4 (sh_103 _ _) (by decide) rfl (rF_103 _ _) dX6_forgetWhys_39 ?_
      refine n_iload_n (i := 2) dX6_forgetWhys_40 rfl rfl ?_
      refine n_iconst (-1 : Int32) dX6_forgetWhys_41 ic_m1 ?_
      obtain ⟨s5, hs5, h⟩ := yb_bind h
      refine p_iast hs5 (shF_103 hr4 _ _) dX6_forgetWhys_42 ?_
      refine n_iinc (vs' := [some (.ref (yb_ad G 100)), some (.int x1), some (.int (x2 + (1 : Int32)))]) dX6_forgetWhys_43 rfl (ii_1 _) (Nat.le_of_ble_eq_true rfl) rfl rfl ?_
      refine n_goto 26 dX6_forgetWhys_46 (by decide) ?_
      exact p_jump (hrc26 (x2 + (1 : Int32)) s5 h) (And.intro rfl (And.intro rfl (And.intro rfl trivial)))
set_option maxHeartbeats 4000000 in
set_option maxRecDepth 20000 in
theorem tl_X6_forgetWhys_26 {G : yb_G} {X : List (FieldType × Nat)} {rc16 : (Int32 → yb_S → Option yb_S)} {x1 : Int32} {out : yb_S} (hrc16 : ∀ (x1' : Int32) (s' : yb_S), rc16 x1' s' = some out → Rn G RX6 cX6_forgetWhys 3 none false (yb_rm 1) (yb_qv X out) 0 0 16 [some (.ref (yb_ad G 100)), some (.int x1'), none] [] (yb_mk s' X)) {x2 : Int32} {s : yb_S} (h : l_X6_forgetWhys_26 rc16 x1 yb_N x2 s = some out) : Rn G RX6 cX6_forgetWhys 3 none false (yb_rm 1) (yb_qv X out) 0 0 26 [some (.ref (yb_ad G 100)), some (.int x1), some (.int x2)] [] (yb_mk s X) := t_l_X6_forgetWhys_26 hrc16 _ _ _ h
set_option maxHeartbeats 4000000 in
set_option maxRecDepth 20000 in
theorem t_l_X6_forgetWhys_16 {G : yb_G} {X : List (FieldType × Nat)} {out : yb_S} : ∀ (k0 : Nat) (x1 : Int32) (s : yb_S), l_X6_forgetWhys_16 k0 x1 s = some out → Rn G RX6 cX6_forgetWhys 3 none false (yb_rm 1) (yb_qv X out) 0 0 16 [some (.ref (yb_ad G 100)), some (.int x1), none] [] (yb_mk s X) := by
  intro k0
  induction k0 with
  | zero => intro x1 s h; cases h
  | succ k0 ih =>
    intro x1 s h
    have h : f_X6_forgetWhys_16 (fun x1 s => l_X6_forgetWhys_16 k0 x1 s) x1 s = some out := h
    have hrc16 := ih
    unfold f_X6_forgetWhys_16 at h
    refine n_iload_n (i := 1) dX6_forgetWhys_16 rfl rfl ?_
    refine n_aload_n (i := 0) dX6_forgetWhys_17 rfl rfl ?_
    refine p_geti fl_X6_39 (sh_100 _ _) rfl dX6_forgetWhys_18 ?_
    refine n_icmp_ge 55 dX6_forgetWhys_21 (by decide) (fun c2 => ?_) (fun c2 => ?_)
    · have h := yb_ifp c2 h
      cases h
      exact n_vret dX6_forgetWhys_55 rfl (Nat.le_refl _) (Nat.le_refl _) ⟨rfl, rfl⟩
    · have h := yb_ifn c2 h
      refine n_iconst (0 : Int32) dX6_forgetWhys_24 ic_0 ?_
      refine n_istore_n (i := 2) (vs' := [some (.ref (yb_ad G 100)), some (.int x1), some (.int (0 : Int32))]) dX6_forgetWhys_25 rfl (Nat.le_of_ble_eq_true rfl) rfl rfl ?_
      exact p_jump (tl_X6_forgetWhys_26 hrc16 h) (And.intro rfl (And.intro rfl (And.intro rfl trivial)))
set_option maxHeartbeats 4000000 in
set_option maxRecDepth 20000 in
theorem tl_X6_forgetWhys_16 {G : yb_G} {X : List (FieldType × Nat)} {out : yb_S} {x1 : Int32} {s : yb_S} (h : l_X6_forgetWhys_16 yb_N x1 s = some out) : Rn G RX6 cX6_forgetWhys 3 none false (yb_rm 1) (yb_qv X out) 0 0 16 [some (.ref (yb_ad G 100)), some (.int x1), none] [] (yb_mk s X) := t_l_X6_forgetWhys_16 _ _ _ h
set_option maxHeartbeats 4000000 in
set_option maxRecDepth 20000 in
theorem t_X6_forgetWhys {G : yb_G} {X : List (FieldType × Nat)} {s : yb_S} {out : yb_S} (h : f_X6_forgetWhys s = some out) : Ct G yX6_forgetWhys cX6_forgetWhys 3 none (yb_rm 1) [.ref (yb_ad G 100)] (yb_mk s X) (yb_qv X out) := by
  refine Ct.of (own := RX6) (ini := false) (vs := [some (.ref (yb_ad G 100)), none, none]) ⟨rfl, by decide +kernel⟩ (fun h => by cases h) (Nat.le_of_ble_eq_true rfl) rfl ?_
  unfold f_X6_forgetWhys at h
  refine n_aload_n (i := 0) dX6_forgetWhys_0 rfl rfl ?_
  refine n_aload_n (i := 0) dX6_forgetWhys_1 rfl rfl ?_
  refine p_getr fl_X6_23 (sh_100 _ _) rfl (rR_100_0 _ _) dX6_forgetWhys_2 ?_
  refine p_getr fl_X6_27 (sh_1 _ _) rfl (rR_1_2 _ _) dX6_forgetWhys_5 ?_
  refine p_geti fl_X6_33 (sh_21 _ _) rfl dX6_forgetWhys_8 ?_
  obtain ⟨s1, hs1, h⟩ := yb_bind h
  refine p_puti hs1 fp_X6_39 (sh_100 _ _) rfl rfl rfl dX6_forgetWhys_11 ?_
  refine n_iconst (0 : Int32) dX6_forgetWhys_14 ic_0 ?_
  refine n_istore_n (i := 1) (vs' := [some (.ref (yb_ad G 100)), some (.int (0 : Int32)), none]) dX6_forgetWhys_15 rfl (Nat.le_of_ble_eq_true rfl) rfl rfl ?_
  exact p_jump (tl_X6_forgetWhys_16 h) (And.intro rfl (And.intro rfl trivial))
set_option maxHeartbeats 4000000 in
set_option maxRecDepth 20000 in
theorem t_X11_place {G : yb_G} {X : List (FieldType × Nat)} {s : yb_S} {out : (Int32 × yb_S)} (h : f_X11_place s = some out) : Ct G yX11_place cX11_place 1 (Option.some .int) (yb_rm 8) [.ref (yb_ad G 0)] (yb_mk s X) (yb_qi X out.2 out.1) := by
  refine Ct.of (own := RX11) (ini := false) (vs := [some (.ref (yb_ad G 0))]) ⟨rfl, by decide +kernel⟩ (fun h => by cases h) (Nat.le_of_ble_eq_true rfl) rfl ?_
  unfold f_X11_place at h
  refine n_aload_n (i := 0) dX11_place_0 rfl rfl ?_
  refine p_getr fl_X11_28 (sh_0 _ _) rfl (rR_0_2 _ _) dX11_place_1 ?_
  obtain ⟨q1, hq1, h⟩ := yb_bind h
  refine p_callVv (As := []) (t_X6_forgetWhys hq1) cv_X11_227 (sh_100 _ _) rfl rfl (Nat.le_of_ble_eq_true rfl) dX11_place_4 (yb_rok (Nat.le_of_ble_eq_true rfl) (by decide)) ⟨rfl, rfl⟩ ⟨Nat.le_refl _, Nat.le_refl _⟩ (fun k2 => ?_)
  refine n_aload_n (i := 0) dX11_place_7 rfl rfl ?_
  refine p_getr fl_X11_28 (sh_0 _ _) rfl (rR_0_2 _ _) dX11_place_8 ?_
  obtain ⟨q3, hq3, h⟩ := yb_bind h
  refine p_callVv (As := []) (t_X6_lineUp hq3) cv_X11_230 (sh_100 _ _) rfl rfl (Nat.le_of_ble_eq_true rfl) dX11_place_11 (yb_rok (Nat.le_of_ble_eq_true rfl) (by decide)) ⟨rfl, rfl⟩ ⟨Nat.le_refl _, Nat.le_refl _⟩ (fun k4 => ?_)
  refine n_aload_n (i := 0) dX11_place_14 rfl rfl ?_
  refine p_getr fl_X11_28 (sh_0 _ _) rfl (rR_0_2 _ _) dX11_place_15 ?_
  refine n_iconst (1 : Int32) dX11_place_18 ic_1 ?_
  obtain ⟨q5, hq5, h⟩ := yb_bind h
  refine p_callVi (As := [.int (1 : Int32)]) (t_X6_placeAll hq5) cv_X11_233 (sh_100 _ _) rfl rfl (Nat.le_of_ble_eq_true rfl) dX11_place_19 (yb_rok (Nat.le_of_ble_eq_true rfl) (by decide)) ⟨rfl, rfl⟩ ⟨Nat.le_refl _, Nat.le_refl _⟩ (fun k6 => ?_)
  cases h
  exact n_iret dX11_place_22 rfl rfl (Nat.le_refl _) (Nat.le_refl _) ⟨rfl, rfl⟩
set_option maxHeartbeats 4000000 in
set_option maxRecDepth 20000 in
theorem t_X11_rank {G : yb_G} {X : List (FieldType × Nat)} {a1 : Int32} {a2 : Int32} {s : yb_S} {out : (Int32 × yb_S)} (h : f_X11_rank a1 a2 s = some out) : Ct G yX11_rank cX11_rank 3 (Option.some .int) (yb_rm 6) [.ref (yb_ad G 0), .int a1, .int a2] (yb_mk s X) (yb_qi X out.2 out.1) := by
  refine Ct.of (own := RX11) (ini := false) (vs := [some (.ref (yb_ad G 0)), some (.int a1), some (.int a2)]) ⟨rfl, by decide +kernel⟩ (fun h => by cases h) (Nat.le_of_ble_eq_true rfl) rfl ?_
  unfold f_X11_rank at h
  refine n_aload_n (i := 0) dX11_rank_0 rfl rfl ?_
  refine p_getr fl_X11_10 (sh_0 _ _) rfl (rR_0_0 _ _) dX11_rank_1 ?_
  refine p_getr fl_X11_100 (sh_1 _ _) rfl (rR_1_2 _ _) dX11_rank_4 ?_
  refine n_iload_n (i := 1) dX11_rank_7 rfl rfl ?_
  obtain ⟨q1, hq1, h⟩ := yb_bind h
  refine p_callVi (As := [.int a1]) (t_X2_has hq1) cv_X11_127 (sh_21 _ _) rfl rfl (Nat.le_of_ble_eq_true rfl) dX11_rank_8 (yb_rok (Nat.le_of_ble_eq_true rfl) (by decide)) ⟨rfl, rfl⟩ ⟨Nat.le_refl _, Nat.le_refl _⟩ (fun k2 => ?_)
  refine n_if_ne 17 dX11_rank_11 (by decide) (fun c3 => ?_) (fun c3 => ?_)
  · have h := yb_ifn c3 h
    refine n_iload_n (i := 2) dX11_rank_17 rfl rfl ?_
    by_cases c4 : a2 = (0 : Int32)
    · have h := yb_ifp c4 h
      refine n_lookup (off := 26) 44 dX11_rank_18 (by decide) (by rw [c4]; decide) (by decide) ?_
      refine n_aload_n (i := 0) dX11_rank_44 rfl rfl ?_
      refine p_getr fl_X11_10 (sh_0 _ _) rfl (rR_0_0 _ _) dX11_rank_45 ?_
      refine n_iload_n (i := 1) dX11_rank_48 rfl rfl ?_
      obtain ⟨q6, hq6, h⟩ := yb_bind h
      refine p_callVi (As := [.int a1]) (t_X8_aheadOf hq6) cv_X11_214 (sh_1 _ _) rfl rfl (Nat.le_of_ble_eq_true rfl) dX11_rank_49 (yb_rok (Nat.le_of_ble_eq_true rfl) (by decide)) ⟨rfl, rfl⟩ ⟨Nat.le_refl _, Nat.le_refl _⟩ (fun k7 => ?_)
      cases h
      exact n_iret dX11_rank_52 rfl rfl (Nat.le_refl _) (Nat.le_refl _) ⟨rfl, rfl⟩
    · have h := yb_ifn c4 h
      by_cases c5 : a2 = (1 : Int32)
      · have h := yb_ifp c5 h
        refine n_lookup (off := 35) 53 dX11_rank_18 (by decide) (by rw [c5]; decide) (by decide) ?_
        refine n_aload_n (i := 0) dX11_rank_53 rfl rfl ?_
        refine p_getr fl_X11_10 (sh_0 _ _) rfl (rR_0_0 _ _) dX11_rank_54 ?_
        refine n_iload_n (i := 1) dX11_rank_57 rfl rfl ?_
        obtain ⟨q8, hq8, h⟩ := yb_bind h
        refine p_callVi (As := [.int a1]) (t_X8_limitOf hq8) cv_X11_217 (sh_1 _ _) rfl rfl (Nat.le_of_ble_eq_true rfl) dX11_rank_58 (yb_rok (Nat.le_of_ble_eq_true rfl) (by decide)) ⟨rfl, rfl⟩ ⟨Nat.le_refl _, Nat.le_refl _⟩ (fun k9 => ?_)
        cases h
        exact n_iret dX11_rank_61 rfl rfl (Nat.le_refl _) (Nat.le_refl _) ⟨rfl, rfl⟩
      · have h := yb_ifn c5 h
        refine n_lookup (off := 44) 62 dX11_rank_18 (by decide) ((lv_osw c4 (by decide)).trans ((lv_osw c5 (by decide)).trans rfl)) (by decide) ?_
        refine n_ldc (-2147483648 : Int32) k_X11_140 dX11_rank_62 ?_
        cases h
        exact n_iret dX11_rank_64 rfl rfl (Nat.le_refl _) (Nat.le_refl _) ⟨rfl, rfl⟩
  · have h := yb_ifp c3 h
    refine n_ldc (-2147483648 : Int32) k_X11_140 dX11_rank_14 ?_
    cases h
    exact n_iret dX11_rank_16 rfl rfl (Nat.le_refl _) (Nat.le_refl _) ⟨rfl, rfl⟩
set_option maxHeartbeats 4000000 in
set_option maxRecDepth 20000 in
theorem t_X7_add {G : yb_G} {X : List (FieldType × Nat)} {a1 : Int32} {a2 : Int32} {a3 : Int32} {a4 : Int32} {a5 : Int32} {s : yb_S} {out : (Int32 × yb_S)} (h : f_X7_add a1 a2 a3 a4 a5 s = some out) : Ct G yX7_add cX7_add 6 (Option.some .int) (yb_rm 5) [.ref (yb_ad G 41), .int a1, .int a2, .int a3, .int a4, .int a5] (yb_mk s X) (yb_qi X out.2 out.1) := by
  refine Ct.of (own := RX7) (ini := false) (vs := [some (.ref (yb_ad G 41)), some (.int a1), some (.int a2), some (.int a3), some (.int a4), some (.int a5)]) ⟨rfl, by decide +kernel⟩ (fun h => by cases h) (Nat.le_of_ble_eq_true rfl) rfl ?_
  unfold f_X7_add at h
  refine n_aload_n (i := 0) dX7_add_0 rfl rfl ?_
  refine p_geti fl_X7_48 (sh_41 _ _) rfl dX7_add_1 ?_
  refine n_bipush (60 : Int32) dX7_add_4 bp_60 ?_
  refine n_icmp_lt 11 dX7_add_6 (by decide) (fun c1 => ?_) (fun c1 => ?_)
  · have h := yb_ifp c1 h
    refine n_aload_n (i := 0) dX7_add_11 rfl rfl ?_
    refine p_getr fl_X7_9 (sh_41 _ _) rfl (rR_41_1 _ _) dX7_add_12 ?_
    refine n_aload_n (i := 0) dX7_add_15 rfl rfl ?_
    refine p_geti fl_X7_48 (sh_41 _ _) rfl dX7_add_16 ?_
    refine n_iload_n (i := 1) dX7_add_19 rfl rfl ?_
    obtain ⟨s2, hs2, h⟩ := yb_bind h
    refine p_iast hs2 (sh_42 _ _) dX7_add_20 ?_
    refine n_aload_n (i := 0) dX7_add_21 rfl rfl ?_
    refine p_getr fl_X7_15 (sh_41 _ _) rfl (rR_41_2 _ _) dX7_add_22 ?_
    refine n_aload_n (i := 0) dX7_add_25 rfl rfl ?_
    refine p_geti fl_X7_48 (sh_41 _ _) rfl dX7_add_26 ?_
    refine n_iload_n (i := 2) dX7_add_29 rfl rfl ?_
    obtain ⟨s3, hs3, h⟩ := yb_bind h
    refine p_iast hs3 (sh_43 _ _) dX7_add_30 ?_
    refine n_aload_n (i := 0) dX7_add_31 rfl rfl ?_
    refine p_getr fl_X7_18 (sh_41 _ _) rfl (rR_41_3 _ _) dX7_add_32 ?_
    refine n_aload_n (i := 0) dX7_add_35 rfl rfl ?_
    refine p_geti fl_X7_48 (sh_41 _ _) rfl dX7_add_36 ?_
    refine n_iload_n (i := 3) dX7_add_39 rfl rfl ?_
    obtain ⟨s4, hs4, h⟩ := yb_bind h
    refine p_iast hs4 (sh_44 _ _) dX7_add_40 ?_
    refine n_aload_n (i := 0) dX7_add_41 rfl rfl ?_
    refine p_getr fl_X7_21 (sh_41 _ _) rfl (rR_41_4 _ _) dX7_add_42 ?_
    refine n_aload_n (i := 0) dX7_add_45 rfl rfl ?_
    refine p_geti fl_X7_48 (sh_41 _ _) rfl dX7_add_46 ?_
    refine n_iload dX7_add_49 rfl ?_
    refine n_sipush (1000 : Int32) dX7_add_51 sp_1000 ?_
    refine n_idiv dX7_add_54 (by decide) ?_
    obtain ⟨s5, hs5, h⟩ := yb_bind h
    refine p_iast hs5 (sh_45 _ _) dX7_add_55 ?_
    refine n_aload_n (i := 0) dX7_add_56 rfl rfl ?_
    refine p_getr fl_X7_24 (sh_41 _ _) rfl (rR_41_5 _ _) dX7_add_57 ?_
    refine n_aload_n (i := 0) dX7_add_60 rfl rfl ?_
    refine p_geti fl_X7_48 (sh_41 _ _) rfl dX7_add_61 ?_
    refine n_iload dX7_add_64 rfl ?_
    refine n_sipush (1000 : Int32) dX7_add_66 sp_1000 ?_
    refine p_irem (by decide) dX7_add_69 ?_
    obtain ⟨s6, hs6, h⟩ := yb_bind h
    refine p_iast hs6 (sh_46 _ _) dX7_add_70 ?_
    refine n_aload_n (i := 0) dX7_add_71 rfl rfl ?_
    refine p_getr fl_X7_27 (sh_41 _ _) rfl (rR_41_6 _ _) dX7_add_72 ?_
    refine n_aload_n (i := 0) dX7_add_75 rfl rfl ?_
    refine p_geti fl_X7_48 (sh_41 _ _) rfl dX7_add_76 ?_
    refine n_iload dX7_add_79 rfl ?_
    obtain ⟨s7, hs7, h⟩ := yb_bind h
    refine p_iast hs7 (sh_47 _ _) dX7_add_81 ?_
    refine n_aload_n (i := 0) dX7_add_82 rfl rfl ?_
    refine p_getr fl_X7_30 (sh_41 _ _) rfl (rR_41_7 _ _) dX7_add_83 ?_
    refine n_aload_n (i := 0) dX7_add_86 rfl rfl ?_
    refine p_geti fl_X7_48 (sh_41 _ _) rfl dX7_add_87 ?_
    refine n_aload_n (i := 0) dX7_add_90 rfl rfl ?_
    refine p_geti fl_X7_48 (sh_41 _ _) rfl dX7_add_91 ?_
    obtain ⟨s8, hs8, h⟩ := yb_bind h
    refine p_iast hs8 (sh_48 _ _) dX7_add_94 ?_
    refine n_aload_n (i := 0) dX7_add_95 rfl rfl ?_
    refine n_dup dX7_add_96 rfl ?_
    refine p_geti fl_X7_48 (sh_41 _ _) rfl dX7_add_97 ?_
    refine n_iconst (1 : Int32) dX7_add_100 ic_1 ?_
    refine n_iadd dX7_add_101 ?_
    obtain ⟨s9, hs9, h⟩ := yb_bind h
    refine p_puti hs9 fp_X7_48 (sh_41 _ _) rfl rfl rfl dX7_add_102 ?_
    refine n_aload_n (i := 0) dX7_add_105 rfl rfl ?_
    refine n_aload_n (i := 0) dX7_add_106 rfl rfl ?_
    refine p_geti fl_X7_48 (sh_41 _ _) rfl dX7_add_107 ?_
    refine n_iconst (1 : Int32) dX7_add_110 ic_1 ?_
    refine n_isub dX7_add_111 ?_
    obtain ⟨q10, hq10, h⟩ := yb_bind h
    refine p_callVv (As := [.int ((s9.1 41 0) - (1 : Int32))]) (t_X7_noteFinding hq10) cv_X7_52 (sh_41 _ _) rfl rfl (Nat.le_of_ble_eq_true rfl) dX7_add_112 (yb_rok (Nat.le_of_ble_eq_true rfl) (by decide)) ⟨rfl, rfl⟩ ⟨Nat.le_refl _, Nat.le_refl _⟩ (fun k11 => ?_)
    refine n_aload_n (i := 0) dX7_add_115 rfl rfl ?_
    refine p_geti fl_X7_48 (sh_41 _ _) rfl dX7_add_116 ?_
    refine n_iconst (1 : Int32) dX7_add_119 ic_1 ?_
    refine n_isub dX7_add_120 ?_
    cases h
    exact n_iret dX7_add_121 rfl rfl (Nat.le_refl _) (Nat.le_refl _) ⟨rfl, rfl⟩
  · have h := yb_ifn c1 h
    refine n_iconst (-1 : Int32) dX7_add_9 ic_m1 ?_
    cases h
    exact n_iret dX7_add_10 rfl rfl (Nat.le_refl _) (Nat.le_refl _) ⟨rfl, rfl⟩
set_option maxHeartbeats 4000000 in
set_option maxRecDepth 20000 in
theorem tj_X11_record_50 {G : yb_G} {X : List (FieldType × Nat)} {x1 : Int32} {x2 : Int32} {x3 : Int32} {x4 : Int32} {x5 : Int32} {s : yb_S} {out : (Int32 × yb_S)} (h : j_X11_record_50 x1 x2 x3 x4 x5 s = some out) : Rn G RX11 cX11_record 6 (Option.some .int) false (yb_rm 6) (yb_qi X out.2 out.1) 0 0 50 [some (.ref (yb_ad G 0)), some (.int x1), some (.int x2), some (.int x3), some (.int x4), some (.int x5)] [] (yb_mk s X) := by
  unfold j_X11_record_50 at h
  refine n_aload_n (i := 0) dX11_record_50 rfl rfl ?_
  refine p_getr fl_X11_10 (sh_0 _ _) rfl (rR_0_0 _ _) dX11_record_51 ?_
  refine p_getr fl_X11_128 (sh_1 _ _) rfl (rR_1_3 _ _) dX11_record_54 ?_
  refine n_iload_n (i := 1) dX11_record_57 rfl rfl ?_
  refine n_iload_n (i := 2) dX11_record_58 rfl rfl ?_
  refine n_iload_n (i := 3) dX11_record_59 rfl rfl ?_
  refine n_iload dX11_record_60 rfl ?_
  refine n_iload dX11_record_62 rfl ?_
  obtain ⟨q10, hq10, h⟩ := yb_bind h
  refine p_callVi (As := [.int x1, .int x2, .int x3, .int x4, .int x5]) (t_X7_add hq10) cv_X11_132 (sh_41 _ _) rfl rfl (Nat.le_of_ble_eq_true rfl) dX11_record_64 (yb_rok (Nat.le_of_ble_eq_true rfl) (by decide)) ⟨rfl, rfl⟩ ⟨Nat.le_refl _, Nat.le_refl _⟩ (fun k11 => ?_)
  cases h
  exact n_iret dX11_record_67 rfl rfl (Nat.le_refl _) (Nat.le_refl _) ⟨rfl, rfl⟩
set_option maxHeartbeats 4000000 in
set_option maxRecDepth 20000 in
theorem t_X11_record {G : yb_G} {X : List (FieldType × Nat)} {a1 : Int32} {a2 : Int32} {a3 : Int32} {a4 : Int32} {a5 : Int32} {s : yb_S} {out : (Int32 × yb_S)} (h : f_X11_record a1 a2 a3 a4 a5 s = some out) : Ct G yX11_record cX11_record 6 (Option.some .int) (yb_rm 6) [.ref (yb_ad G 0), .int a1, .int a2, .int a3, .int a4, .int a5] (yb_mk s X) (yb_qi X out.2 out.1) := by
  refine Ct.of (own := RX11) (ini := false) (vs := [some (.ref (yb_ad G 0)), some (.int a1), some (.int a2), some (.int a3), some (.int a4), some (.int a5)]) ⟨rfl, by decide +kernel⟩ (fun h => by cases h) (Nat.le_of_ble_eq_true rfl) rfl ?_
  unfold f_X11_record at h
  refine n_iload_n (i := 1) dX11_record_0 rfl rfl ?_
  refine n_if_lt 25 dX11_record_1 (by decide) (fun c1 => ?_) (fun c1 => ?_)
  · have h := yb_ifp c1 h
    refine n_iconst (-1 : Int32) dX11_record_25 ic_m1 ?_
    cases h
    exact n_iret dX11_record_26 rfl rfl (Nat.le_refl _) (Nat.le_refl _) ⟨rfl, rfl⟩
  · have h := yb_ifn c1 h
    refine n_iload_n (i := 1) dX11_record_4 rfl rfl ?_
    refine n_iconst (2 : Int32) dX11_record_5 ic_2 ?_
    refine n_icmp_gt 25 dX11_record_6 (by decide) (fun c2 => ?_) (fun c2 => ?_)
    · have h := yb_ifp c2 h
      refine n_iconst (-1 : Int32) dX11_record_25 ic_m1 ?_
      cases h
      exact n_iret dX11_record_26 rfl rfl (Nat.le_refl _) (Nat.le_refl _) ⟨rfl, rfl⟩
    · have h := yb_ifn c2 h
      refine n_iload_n (i := 2) dX11_record_9 rfl rfl ?_
      refine n_iload_n (i := 3) dX11_record_10 rfl rfl ?_
      obtain ⟨q3, hq3, h⟩ := yb_bind h
      refine p_callSi (As := [.int a2, .int a3]) (t_X11_canBeSought hq3) cs_X11_123 rfl rfl (Nat.le_of_ble_eq_true rfl) dX11_record_11 (yb_rok (Nat.le_of_ble_eq_true rfl) (by decide)) ⟨rfl, rfl⟩ ⟨Nat.le_refl _, Nat.le_refl _⟩ (fun k4 => ?_)
      refine n_if_eq 25 dX11_record_14 (by decide) (fun c5 => ?_) (fun c5 => ?_)
      · have h := yb_ifp c5 h
        refine n_iconst (-1 : Int32) dX11_record_25 ic_m1 ?_
        cases h
        exact n_iret dX11_record_26 rfl rfl (Nat.le_refl _) (Nat.le_refl _) ⟨rfl, rfl⟩
      · have h := yb_ifn c5 h
        refine n_iload dX11_record_17 rfl ?_
        obtain ⟨q6, hq6, h⟩ := yb_bind h
        refine p_callSi (As := [.int a4]) (t_X11_canBeDays hq6) cs_X11_74 rfl rfl (Nat.le_of_ble_eq_true rfl) dX11_record_19 (yb_rok (Nat.le_of_ble_eq_true rfl) (by decide)) ⟨rfl, rfl⟩ ⟨Nat.le_refl _, Nat.le_refl _⟩ (fun k7 => ?_)
        refine n_if_ne 27 dX11_record_22 (by decide) (fun c8 => ?_) (fun c8 => ?_)
        · have h := yb_ifn c8 h
          refine n_iload dX11_record_27 rfl ?_
          refine n_iconst (-1 : Int32) dX11_record_29 ic_m1 ?_
          refine n_icmp_eq 50 dX11_record_30 (by decide) (fun c9 => ?_) (fun c9 => ?_)
          · have h := yb_ifp c9 h
            exact p_jump (tj_X11_record_50 h) (And.intro rfl (And.intro rfl (And.intro rfl (And.intro rfl (And.intro rfl (And.intro rfl trivial))))))
          · have h := yb_ifn c9 h
            refine n_aload_n (i := 0) dX11_record_33 rfl rfl ?_
            refine p_getr fl_X11_10 (sh_0 _ _) rfl (rR_0_0 _ _) dX11_record_34 ?_
            refine p_getr fl_X11_100 (sh_1 _ _) rfl (rR_1_2 _ _) dX11_record_37 ?_
            refine n_iload dX11_record_40 rfl ?_
            obtain ⟨q12, hq12, h⟩ := yb_bind h
            refine p_callVi (As := [.int a5]) (t_X2_has hq12) cv_X11_127 (sh_21 _ _) rfl rfl (Nat.le_of_ble_eq_true rfl) dX11_record_42 (yb_rok (Nat.le_of_ble_eq_true rfl) (by decide)) ⟨rfl, rfl⟩ ⟨Nat.le_refl _, Nat.le_refl _⟩ (fun k13 => ?_)
            refine n_if_ne 50 dX11_record_45 (by decide) (fun c14 => ?_) (fun c14 => ?_)
            · have h := yb_ifn c14 h
              exact p_jump (tj_X11_record_50 h) (And.intro rfl (And.intro rfl (And.intro rfl (And.intro rfl (And.intro rfl (And.intro rfl trivial))))))
            · have h := yb_ifp c14 h
              refine n_iconst (-1 : Int32) dX11_record_48 ic_m1 ?_
              cases h
              exact n_iret dX11_record_49 rfl rfl (Nat.le_refl _) (Nat.le_refl _) ⟨rfl, rfl⟩
        · have h := yb_ifp c8 h
          refine n_iconst (-1 : Int32) dX11_record_25 ic_m1 ?_
          cases h
          exact n_iret dX11_record_26 rfl rfl (Nat.le_refl _) (Nat.le_refl _) ⟨rfl, rfl⟩
set_option maxHeartbeats 4000000 in
set_option maxRecDepth 20000 in
theorem tj_X7_rivalsOf_85 {G : yb_G} {X : List (FieldType × Nat)} {rc34 : (Int32 → Int32 → Option Int32)} {x1 : Int32} {x2 : Int32} {x3 : Int32} {x4 : Int32} {x5 : Int32} {s : yb_S} {out : Int32} (hrc34 : ∀ (x4' : Int32) (x5' : Int32), rc34 x4' x5' = some out → Rn G RX7 cX7_rivalsOf 6 (Option.some .int) false (yb_rm 3) (yb_qi X s out) 0 0 34 [some (.ref (yb_ad G 41)), some (.int x1), some (.int x2), some (.int x3), some (.int x4'), some (.int x5')] [] (yb_mk s X)) (h : j_X7_rivalsOf_85 rc34 x1 x2 x3 x4 x5 s = some out) : Rn G RX7 cX7_rivalsOf 6 (Option.some .int) false (yb_rm 3) (yb_qi X s out) 0 0 85 [some (.ref (yb_ad G 41)), some (.int x1), some (.int x2), some (.int x3), some (.int x4), some (.int x5)] [] (yb_mk s X) := by
  unfold j_X7_rivalsOf_85 at h
  refine n_iinc (vs' := [some (.ref (yb_ad G 41)), some (.int x1), some (.int x2), some (.int x3), some (.int x4), some (.int (x5 + (1 : Int32)))]) dX7_rivalsOf_85 rfl (ii_1 _) (Nat.le_of_ble_eq_true rfl) rfl rfl ?_
  refine n_goto 34 dX7_rivalsOf_88 (by decide) ?_
  exact p_jump (hrc34 x4 (x5 + (1 : Int32)) h) (And.intro rfl (And.intro rfl (And.intro rfl (And.intro rfl (And.intro rfl (And.intro rfl trivial))))))
set_option maxHeartbeats 4000000 in
set_option maxRecDepth 20000 in
theorem t_l_X7_rivalsOf_34 {G : yb_G} {X : List (FieldType × Nat)} {x1 : Int32} {x2 : Int32} {x3 : Int32} {s : yb_S} {out : Int32} : ∀ (k0 : Nat) (x4 : Int32) (x5 : Int32), l_X7_rivalsOf_34 x1 x2 x3 s k0 x4 x5 = some out → Rn G RX7 cX7_rivalsOf 6 (Option.some .int) false (yb_rm 3) (yb_qi X s out) 0 0 34 [some (.ref (yb_ad G 41)), some (.int x1), some (.int x2), some (.int x3), some (.int x4), some (.int x5)] [] (yb_mk s X) := by
  intro k0
  induction k0 with
  | zero => intro x4 x5 h; cases h
  | succ k0 ih =>
    intro x4 x5 h
    have h : f_X7_rivalsOf_34 (fun x4 x5 => l_X7_rivalsOf_34 x1 x2 x3 s k0 x4 x5) x1 x2 x3 s x4 x5 = some out := h
    have hrc34 := ih
    unfold f_X7_rivalsOf_34 at h
    refine n_iload dX7_rivalsOf_34 rfl ?_
    refine n_aload_n (i := 0) dX7_rivalsOf_36 rfl rfl ?_
    refine p_geti fl_X7_48 (sh_41 _ _) rfl dX7_rivalsOf_37 ?_
    refine n_icmp_ge 91 dX7_rivalsOf_40 (by decide) (fun c8 => ?_) (fun c8 => ?_)
    · have h := yb_ifp c8 h
      refine n_iload dX7_rivalsOf_91 rfl ?_
      cases h
      exact n_iret dX7_rivalsOf_93 rfl rfl (Nat.le_refl _) (Nat.le_refl _) ⟨rfl, rfl⟩
    · have h := yb_ifn c8 h
      refine n_iload dX7_rivalsOf_43 rfl ?_
      refine n_iload_n (i := 2) dX7_rivalsOf_45 rfl rfl ?_
      refine n_icmp_eq 85 dX7_rivalsOf_46 (by decide) (fun c9 => ?_) (fun c9 => ?_)
      · have h := yb_ifp c9 h
        exact p_jump (tj_X7_rivalsOf_85 hrc34 h) (And.intro rfl (And.intro rfl (And.intro rfl (And.intro rfl (And.intro rfl (And.intro rfl trivial))))))
      · have h := yb_ifn c9 h
        refine n_aload_n (i := 0) dX7_rivalsOf_49 rfl rfl ?_
        refine n_iload_n (i := 1) dX7_rivalsOf_50 rfl rfl ?_
        refine n_iload dX7_rivalsOf_51 rfl ?_
        obtain ⟨q10, hq10, h⟩ := yb_bind h
        refine p_callVi (As := [.int x1, .int x5]) (t_X7_canBeAlike hq10) cv_X7_70 (sh_41 _ _) rfl rfl (Nat.le_of_ble_eq_true rfl) dX7_rivalsOf_53 (yb_rok (Nat.le_of_ble_eq_true rfl) (by decide)) ⟨rfl, rfl⟩ ⟨Nat.le_refl _, Nat.le_refl _⟩ (fun k11 => ?_)
        refine n_if_eq 85 dX7_rivalsOf_56 (by decide) (fun c12 => ?_) (fun c12 => ?_)
        · have h := yb_ifp c12 h
          exact p_jump (tj_X7_rivalsOf_85 hrc34 h) (And.intro rfl (And.intro rfl (And.intro rfl (And.intro rfl (And.intro rfl (And.intro rfl trivial))))))
        · have h := yb_ifn c12 h
          refine n_aload_n (i := 0) dX7_rivalsOf_59 rfl rfl ?_
          refine n_iload_n (i := 1) dX7_rivalsOf_60 rfl rfl ?_
          refine n_aload_n (i := 0) dX7_rivalsOf_61 rfl rfl ?_
          refine p_getr fl_X7_15 (sh_41 _ _) rfl (rR_41_2 _ _) dX7_rivalsOf_62 ?_
          refine n_iload dX7_rivalsOf_65 rfl ?_
          obtain ⟨v13, hv13, h⟩ := yb_bind h
          refine p_iald hv13 (sh_43 _ _) dX7_rivalsOf_67 ?_
          refine n_aload_n (i := 0) dX7_rivalsOf_68 rfl rfl ?_
          refine p_getr fl_X7_18 (sh_41 _ _) rfl (rR_41_3 _ _) dX7_rivalsOf_69 ?_
          refine n_iload dX7_rivalsOf_72 rfl ?_
          obtain ⟨v14, hv14, h⟩ := yb_bind h
          refine p_iald hv14 (sh_44 _ _) dX7_rivalsOf_74 ?_
          obtain ⟨q15, hq15, h⟩ := yb_bind h
          refine p_callVi (As := [.int x1, .int v13, .int v14]) (t_X7_points hq15) cv_X7_73 (sh_41 _ _) rfl rfl (Nat.le_of_ble_eq_true rfl) dX7_rivalsOf_75 (yb_rok (Nat.le_of_ble_eq_true rfl) (by decide)) ⟨rfl, rfl⟩ ⟨Nat.le_refl _, Nat.le_refl _⟩ (fun k16 => ?_)
          refine n_iload_n (i := 3) dX7_rivalsOf_78 rfl rfl ?_
          refine n_icmp_ne 85 dX7_rivalsOf_79 (by decide) (fun c17 => ?_) (fun c17 => ?_)
          · have h := yb_ifn c17 h
            exact p_jump (tj_X7_rivalsOf_85 hrc34 h) (And.intro rfl (And.intro rfl (And.intro rfl (And.intro rfl (And.intro rfl (And.intro rfl trivial))))))
          · have h := yb_ifp c17 h
            refine n_iinc (vs' := [some (.ref (yb_ad G 41)), some (.int x1), some (.int x2), some (.int x3), some (.int (x4 + (1 : Int32))), some (.int x5)]) dX7_rivalsOf_82 rfl (ii_1 _) (Nat.le_of_ble_eq_true rfl) rfl rfl ?_
            exact p_jump (tj_X7_rivalsOf_85 hrc34 h) (And.intro rfl (And.intro rfl (And.intro rfl (And.intro rfl (And.intro rfl (And.intro rfl trivial))))))
set_option maxHeartbeats 4000000 in
set_option maxRecDepth 20000 in
theorem tl_X7_rivalsOf_34 {G : yb_G} {X : List (FieldType × Nat)} {x1 : Int32} {x2 : Int32} {x3 : Int32} {s : yb_S} {out : Int32} {x4 : Int32} {x5 : Int32} (h : l_X7_rivalsOf_34 x1 x2 x3 s yb_N x4 x5 = some out) : Rn G RX7 cX7_rivalsOf 6 (Option.some .int) false (yb_rm 3) (yb_qi X s out) 0 0 34 [some (.ref (yb_ad G 41)), some (.int x1), some (.int x2), some (.int x3), some (.int x4), some (.int x5)] [] (yb_mk s X) := t_l_X7_rivalsOf_34 _ _ _ h
set_option maxHeartbeats 4000000 in
set_option maxRecDepth 20000 in
theorem t_X7_rivalsOf {G : yb_G} {X : List (FieldType × Nat)} {a1 : Int32} {a2 : Int32} {s : yb_S} {out : Int32} (h : f_X7_rivalsOf a1 a2 s = some out) : Ct G yX7_rivalsOf cX7_rivalsOf 6 (Option.some .int) (yb_rm 3) [.ref (yb_ad G 41), .int a1, .int a2] (yb_mk s X) (yb_qi X s out) := by
  refine Ct.of (own := RX7) (ini := false) (vs := [some (.ref (yb_ad G 41)), some (.int a1), some (.int a2), none, none, none]) ⟨rfl, by decide +kernel⟩ (fun h => by cases h) (Nat.le_of_ble_eq_true rfl) rfl ?_
  unfold f_X7_rivalsOf at h
  refine n_aload_n (i := 0) dX7_rivalsOf_0 rfl rfl ?_
  refine n_iload_n (i := 2) dX7_rivalsOf_1 rfl rfl ?_
  obtain ⟨q1, hq1, h⟩ := yb_bind h
  refine p_callVi (As := [.int a2]) (t_X7_has hq1) cv_X7_56 (sh_41 _ _) rfl rfl (Nat.le_of_ble_eq_true rfl) dX7_rivalsOf_2 (yb_rok (Nat.le_of_ble_eq_true rfl) (by decide)) ⟨rfl, rfl⟩ ⟨Nat.le_refl _, Nat.le_refl _⟩ (fun k2 => ?_)
  refine n_if_ne 10 dX7_rivalsOf_5 (by decide) (fun c3 => ?_) (fun c3 => ?_)
  · have h := yb_ifn c3 h
    refine n_aload_n (i := 0) dX7_rivalsOf_10 rfl rfl ?_
    refine n_iload_n (i := 1) dX7_rivalsOf_11 rfl rfl ?_
    refine n_aload_n (i := 0) dX7_rivalsOf_12 rfl rfl ?_
    refine p_getr fl_X7_15 (sh_41 _ _) rfl (rR_41_2 _ _) dX7_rivalsOf_13 ?_
    refine n_iload_n (i := 2) dX7_rivalsOf_16 rfl rfl ?_
    obtain ⟨v4, hv4, h⟩ := yb_bind h
    refine p_iald hv4 (sh_43 _ _) dX7_rivalsOf_17 ?_
    refine n_aload_n (i := 0) dX7_rivalsOf_18 rfl rfl ?_
    refine p_getr fl_X7_18 (sh_41 _ _) rfl (rR_41_3 _ _) dX7_rivalsOf_19 ?_
    refine n_iload_n (i := 2) dX7_rivalsOf_22 rfl rfl ?_
    obtain ⟨v5, hv5, h⟩ := yb_bind h
    refine p_iald hv5 (sh_44 _ _) dX7_rivalsOf_23 ?_
    obtain ⟨q6, hq6, h⟩ := yb_bind h
    refine p_callVi (As := [.int a1, .int v4, .int v5]) (t_X7_points hq6) cv_X7_73 (sh_41 _ _) rfl rfl (Nat.le_of_ble_eq_true rfl) dX7_rivalsOf_24 (yb_rok (Nat.le_of_ble_eq_true rfl) (by decide)) ⟨rfl, rfl⟩ ⟨Nat.le_refl _, Nat.le_refl _⟩ (fun k7 => ?_)
    refine n_istore_n (i := 3) (vs' := [some (.ref (yb_ad G 41)), some (.int a1), some (.int a2), some (.int q6), none, none]) dX7_rivalsOf_27 rfl (Nat.le_of_ble_eq_true rfl) rfl rfl ?_
    refine n_iconst (0 : Int32) dX7_rivalsOf_28 ic_0 ?_
    refine n_istore (i := 4) (vs' := [some (.ref (yb_ad G 41)), some (.int a1), some (.int a2), some (.int q6), some (.int (0 : Int32)), none]) dX7_rivalsOf_29 (Nat.le_of_ble_eq_true rfl) rfl rfl ?_
    refine n_iconst (0 : Int32) dX7_rivalsOf_31 ic_0 ?_
    refine n_istore (i := 5) (vs' := [some (.ref (yb_ad G 41)), some (.int a1), some (.int a2), some (.int q6), some (.int (0 : Int32)), some (.int (0 : Int32))]) dX7_rivalsOf_32 (Nat.le_of_ble_eq_true rfl) rfl rfl ?_
    exact p_jump (tl_X7_rivalsOf_34 h) (And.intro rfl (And.intro rfl (And.intro rfl (And.intro rfl (And.intro rfl (And.intro rfl trivial))))))
  · have h := yb_ifp c3 h
    refine n_iconst (-1 : Int32) dX7_rivalsOf_8 ic_m1 ?_
    cases h
    exact n_iret dX7_rivalsOf_9 rfl rfl (Nat.le_refl _) (Nat.le_refl _) ⟨rfl, rfl⟩
set_option maxHeartbeats 4000000 in
set_option maxRecDepth 20000 in
theorem t_X11_rivals {G : yb_G} {X : List (FieldType × Nat)} {a1 : Int32} {s : yb_S} {out : Int32} (h : f_X11_rivals a1 s = some out) : Ct G yX11_rivals cX11_rivals 3 (Option.some .int) (yb_rm 4) [.ref (yb_ad G 0), .int a1] (yb_mk s X) (yb_qi X s out) := by
  refine Ct.of (own := RX11) (ini := false) (vs := [some (.ref (yb_ad G 0)), some (.int a1), none]) ⟨rfl, by decide +kernel⟩ (fun h => by cases h) (Nat.le_of_ble_eq_true rfl) rfl ?_
  unfold f_X11_rivals at h
  refine n_aload_n (i := 0) dX11_rivals_0 rfl rfl ?_
  refine p_getr fl_X11_10 (sh_0 _ _) rfl (rR_0_0 _ _) dX11_rivals_1 ?_
  refine p_getr fl_X11_128 (sh_1 _ _) rfl (rR_1_3 _ _) dX11_rivals_4 ?_
  refine n_iload_n (i := 1) dX11_rivals_7 rfl rfl ?_
  obtain ⟨q1, hq1, h⟩ := yb_bind h
  refine p_callVi (As := [.int a1]) (t_X7_matchOf hq1) cv_X11_150 (sh_41 _ _) rfl rfl (Nat.le_of_ble_eq_true rfl) dX11_rivals_8 (yb_rok (Nat.le_of_ble_eq_true rfl) (by decide)) ⟨rfl, rfl⟩ ⟨Nat.le_refl _, Nat.le_refl _⟩ (fun k2 => ?_)
  refine n_istore_n (i := 2) (vs' := [some (.ref (yb_ad G 0)), some (.int a1), some (.int q1)]) dX11_rivals_11 rfl (Nat.le_of_ble_eq_true rfl) rfl rfl ?_
  refine n_iload_n (i := 2) dX11_rivals_12 rfl rfl ?_
  refine n_iconst (-1 : Int32) dX11_rivals_13 ic_m1 ?_
  refine n_icmp_ne 21 dX11_rivals_14 (by decide) (fun c3 => ?_) (fun c3 => ?_)
  · have h := yb_ifn c3 h
    refine n_aload_n (i := 0) dX11_rivals_21 rfl rfl ?_
    refine p_getr fl_X11_10 (sh_0 _ _) rfl (rR_0_0 _ _) dX11_rivals_22 ?_
    refine p_getr fl_X11_128 (sh_1 _ _) rfl (rR_1_3 _ _) dX11_rivals_25 ?_
    refine n_iload_n (i := 1) dX11_rivals_28 rfl rfl ?_
    refine n_iload_n (i := 2) dX11_rivals_29 rfl rfl ?_
    obtain ⟨q4, hq4, h⟩ := yb_bind h
    refine p_callVi (As := [.int a1, .int q1]) (t_X7_rivalsOf hq4) cv_X11_154 (sh_41 _ _) rfl rfl (Nat.le_of_ble_eq_true rfl) dX11_rivals_30 (yb_rok (Nat.le_of_ble_eq_true rfl) (by decide)) ⟨rfl, rfl⟩ ⟨Nat.le_refl _, Nat.le_refl _⟩ (fun k5 => ?_)
    cases h
    exact n_iret dX11_rivals_33 rfl rfl (Nat.le_refl _) (Nat.le_refl _) ⟨rfl, rfl⟩
  · have h := yb_ifp c3 h
    refine n_iconst (-1 : Int32) dX11_rivals_17 ic_m1 ?_
    refine n_goto 33 dX11_rivals_18 (by decide) ?_
    cases h
    exact n_iret dX11_rivals_33 rfl rfl (Nat.le_refl _) (Nat.le_refl _) ⟨rfl, rfl⟩
set_option maxHeartbeats 4000000 in
set_option maxRecDepth 20000 in
theorem t_X11_same {G : yb_G} {X : List (FieldType × Nat)} {a1 : Int32} {a2 : Int32} {s : yb_S} {out : Int32} (h : f_X11_same a1 a2 s = some out) : Ct G yX11_same cX11_same 4 (Option.some .boolean) (yb_rm 2) [.ref (yb_ad G 0), .int a1, .int a2] (yb_mk s X) (yb_qi X s out) := by
  refine Ct.of (own := RX11) (ini := false) (vs := [some (.ref (yb_ad G 0)), some (.int a1), some (.int a2), none]) ⟨rfl, by decide +kernel⟩ (fun h => by cases h) (Nat.le_of_ble_eq_true rfl) rfl ?_
  unfold f_X11_same at h
  refine n_aload_n (i := 0) dX11_same_0 rfl rfl ?_
  refine p_getr fl_X11_10 (sh_0 _ _) rfl (rR_0_0 _ _) dX11_same_1 ?_
  refine p_getr fl_X11_128 (sh_1 _ _) rfl (rR_1_3 _ _) dX11_same_4 ?_
  refine n_astore_n (i := 3) (vs' := [some (.ref (yb_ad G 0)), some (.int a1), some (.int a2), some (.ref (yb_ad G 41))]) dX11_same_7 rfl (Nat.le_of_ble_eq_true rfl) rfl rfl ?_
  refine n_aload_n (i := 3) dX11_same_8 rfl rfl ?_
  refine n_iload_n (i := 1) dX11_same_9 rfl rfl ?_
  obtain ⟨q1, hq1, h⟩ := yb_bind h
  refine p_callVi (As := [.int a1]) (t_X7_has hq1) cv_X11_164 (sh_41 _ _) rfl rfl (Nat.le_of_ble_eq_true rfl) dX11_same_10 (yb_rok (Nat.le_of_ble_eq_true rfl) (by decide)) ⟨rfl, rfl⟩ ⟨Nat.le_refl _, Nat.le_refl _⟩ (fun k2 => ?_)
  refine n_if_eq 43 dX11_same_13 (by decide) (fun c3 => ?_) (fun c3 => ?_)
  · have h := yb_ifp c3 h
    refine n_iconst (0 : Int32) dX11_same_43 ic_0 ?_
    cases h
    exact n_iret dX11_same_44 rfl (by decide) (Nat.le_refl _) (Nat.le_refl _) ⟨rfl, rfl⟩
  · have h := yb_ifn c3 h
    refine n_aload_n (i := 3) dX11_same_16 rfl rfl ?_
    refine n_iload_n (i := 2) dX11_same_17 rfl rfl ?_
    obtain ⟨q4, hq4, h⟩ := yb_bind h
    refine p_callVi (As := [.int a2]) (t_X7_has hq4) cv_X11_164 (sh_41 _ _) rfl rfl (Nat.le_of_ble_eq_true rfl) dX11_same_18 (yb_rok (Nat.le_of_ble_eq_true rfl) (by decide)) ⟨rfl, rfl⟩ ⟨Nat.le_refl _, Nat.le_refl _⟩ (fun k5 => ?_)
    refine n_if_eq 43 dX11_same_21 (by decide) (fun c6 => ?_) (fun c6 => ?_)
    · have h := yb_ifp c6 h
      refine n_iconst (0 : Int32) dX11_same_43 ic_0 ?_
      cases h
      exact n_iret dX11_same_44 rfl (by decide) (Nat.le_refl _) (Nat.le_refl _) ⟨rfl, rfl⟩
    · have h := yb_ifn c6 h
      refine n_aload_n (i := 3) dX11_same_24 rfl rfl ?_
      refine p_getr fl_X11_165 (sh_41 _ _) rfl (rR_41_7 _ _) dX11_same_25 ?_
      refine n_iload_n (i := 1) dX11_same_28 rfl rfl ?_
      obtain ⟨v7, hv7, h⟩ := yb_bind h
      refine p_iald hv7 (sh_48 _ _) dX11_same_29 ?_
      refine n_aload_n (i := 3) dX11_same_30 rfl rfl ?_
      refine p_getr fl_X11_165 (sh_41 _ _) rfl (rR_41_7 _ _) dX11_same_31 ?_
      refine n_iload_n (i := 2) dX11_same_34 rfl rfl ?_
      obtain ⟨v8, hv8, h⟩ := yb_bind h
      refine p_iald hv8 (sh_48 _ _) dX11_same_35 ?_
      refine n_icmp_ne 43 dX11_same_36 (by decide) (fun c9 => ?_) (fun c9 => ?_)
      · have h := yb_ifn c9 h
        refine n_iconst (0 : Int32) dX11_same_43 ic_0 ?_
        cases h
        exact n_iret dX11_same_44 rfl (by decide) (Nat.le_refl _) (Nat.le_refl _) ⟨rfl, rfl⟩
      · have h := yb_ifp c9 h
        refine n_iconst (1 : Int32) dX11_same_39 ic_1 ?_
        refine n_goto 44 dX11_same_40 (by decide) ?_
        cases h
        exact n_iret dX11_same_44 rfl (by decide) (Nat.le_refl _) (Nat.le_refl _) ⟨rfl, rfl⟩
set_option maxHeartbeats 4000000 in
set_option maxRecDepth 20000 in
theorem t_l_X7_addSeeking_54 {G : yb_G} {X : List (FieldType × Nat)} {out : (Int32 × yb_S)} : ∀ (k0 : Nat) (x4 : Int32) (s : yb_S), l_X7_addSeeking_54 k0 x4 s = some out → Rn G RX7 cX7_addSeeking 5 (Option.some .boolean) false (yb_rm 4) (yb_qi X out.2 out.1) 0 0 54 [some (.ref (yb_ad G 41)), none, none, none, some (.int x4)] [] (yb_mk s X) := by
  intro k0
  induction k0 with
  | zero => intro x4 s h; cases h
  | succ k0 ih =>
    intro x4 s h
    have h : f_X7_addSeeking_54 (fun x4 s => l_X7_addSeeking_54 k0 x4 s) x4 s = some out := h
    have hrc54 := ih
    unfold f_X7_addSeeking_54 at h
    refine n_iload dX7_addSeeking_54 rfl ?_
    refine n_aload_n (i := 0) dX7_addSeeking_56 rfl rfl ?_
    refine p_geti fl_X7_48 (sh_41 _ _) rfl dX7_addSeeking_57 ?_
    refine n_icmp_ge 81 dX7_addSeeking_60 (by decide) (fun c6 => ?_) (fun c6 => ?_)
    · have h := yb_ifp c6 h
      refine n_iconst (1 : Int32) dX7_addSeeking_81 ic_1 ?_
      cases h
      exact n_iret dX7_addSeeking_82 rfl (by decide) (Nat.le_refl _) (Nat.le_refl _) ⟨rfl, rfl⟩
    · have h := yb_ifn c6 h
      refine n_aload_n (i := 0) dX7_addSeeking_63 rfl rfl ?_
      refine n_aload_n (i := 0) dX7_addSeeking_64 rfl rfl ?_
      refine p_geti fl_X7_83 (sh_41 _ _) rfl dX7_addSeeking_65 ?_
      refine n_iconst (1 : Int32) dX7_addSeeking_68 ic_1 ?_
      refine n_isub dX7_addSeeking_69 ?_
      refine n_iload dX7_addSeeking_70 rfl ?_
      obtain ⟨q7, hq7, h⟩ := yb_bind h
      refine p_callVv (As := [.int ((s.1 41 8) - (1 : Int32)), .int x4]) (t_X7_noteIfFound hq7) cv_X7_86 (sh_41 _ _) rfl rfl (Nat.le_of_ble_eq_true rfl) dX7_addSeeking_72 (yb_rok (Nat.le_of_ble_eq_true rfl) (by decide)) ⟨rfl, rfl⟩ ⟨Nat.le_refl _, Nat.le_refl _⟩ (fun k8 => ?_)
      refine n_iinc (vs' := [some (.ref (yb_ad G 41)), none, none, none, some (.int (x4 + (1 : Int32)))]) dX7_addSeeking_75 rfl (ii_1 _) (Nat.le_of_ble_eq_true rfl) rfl rfl ?_
      refine n_goto 54 dX7_addSeeking_78 (by decide) ?_
      exact p_jump (hrc54 (x4 + (1 : Int32)) q7 h) (And.intro rfl (And.intro rfl trivial))
set_option maxHeartbeats 4000000 in
set_option maxRecDepth 20000 in
theorem tl_X7_addSeeking_54 {G : yb_G} {X : List (FieldType × Nat)} {out : (Int32 × yb_S)} {x4 : Int32} {s : yb_S} (h : l_X7_addSeeking_54 yb_N x4 s = some out) : Rn G RX7 cX7_addSeeking 5 (Option.some .boolean) false (yb_rm 4) (yb_qi X out.2 out.1) 0 0 54 [some (.ref (yb_ad G 41)), none, none, none, some (.int x4)] [] (yb_mk s X) := t_l_X7_addSeeking_54 _ _ _ h
set_option maxHeartbeats 4000000 in
set_option maxRecDepth 20000 in
theorem t_X7_addSeeking {G : yb_G} {X : List (FieldType × Nat)} {a1 : Int32} {a2 : Int32} {a3 : Int32} {s : yb_S} {out : (Int32 × yb_S)} (h : f_X7_addSeeking a1 a2 a3 s = some out) : Ct G yX7_addSeeking cX7_addSeeking 5 (Option.some .boolean) (yb_rm 4) [.ref (yb_ad G 41), .int a1, .int a2, .int a3] (yb_mk s X) (yb_qi X out.2 out.1) := by
  refine Ct.of (own := RX7) (ini := false) (vs := [some (.ref (yb_ad G 41)), some (.int a1), some (.int a2), some (.int a3), none]) ⟨rfl, by decide +kernel⟩ (fun h => by cases h) (Nat.le_of_ble_eq_true rfl) rfl ?_
  unfold f_X7_addSeeking at h
  refine n_aload_n (i := 0) dX7_addSeeking_0 rfl rfl ?_
  refine p_geti fl_X7_83 (sh_41 _ _) rfl dX7_addSeeking_1 ?_
  refine n_bipush (40 : Int32) dX7_addSeeking_4 bp_40 ?_
  refine n_icmp_lt 11 dX7_addSeeking_6 (by decide) (fun c1 => ?_) (fun c1 => ?_)
  · have h := yb_ifp c1 h
    refine n_aload_n (i := 0) dX7_addSeeking_11 rfl rfl ?_
    refine p_getr fl_X7_33 (sh_41 _ _) rfl (rR_41_9 _ _) dX7_addSeeking_12 ?_
    refine n_aload_n (i := 0) dX7_addSeeking_15 rfl rfl ?_
    refine p_geti fl_X7_83 (sh_41 _ _) rfl dX7_addSeeking_16 ?_
    refine n_iload_n (i := 1) dX7_addSeeking_19 rfl rfl ?_
    obtain ⟨s2, hs2, h⟩ := yb_bind h
    refine p_iast hs2 (sh_49 _ _) dX7_addSeeking_20 ?_
    refine n_aload_n (i := 0) dX7_addSeeking_21 rfl rfl ?_
    refine p_getr fl_X7_36 (sh_41 _ _) rfl (rR_41_10 _ _) dX7_addSeeking_22 ?_
    refine n_aload_n (i := 0) dX7_addSeeking_25 rfl rfl ?_
    refine p_geti fl_X7_83 (sh_41 _ _) rfl dX7_addSeeking_26 ?_
    refine n_iload_n (i := 2) dX7_addSeeking_29 rfl rfl ?_
    obtain ⟨s3, hs3, h⟩ := yb_bind h
    refine p_iast hs3 (sh_50 _ _) dX7_addSeeking_30 ?_
    refine n_aload_n (i := 0) dX7_addSeeking_31 rfl rfl ?_
    refine p_getr fl_X7_39 (sh_41 _ _) rfl (rR_41_11 _ _) dX7_addSeeking_32 ?_
    refine n_aload_n (i := 0) dX7_addSeeking_35 rfl rfl ?_
    refine p_geti fl_X7_83 (sh_41 _ _) rfl dX7_addSeeking_36 ?_
    refine n_iload_n (i := 3) dX7_addSeeking_39 rfl rfl ?_
    obtain ⟨s4, hs4, h⟩ := yb_bind h
    refine p_iast hs4 (sh_51 _ _) dX7_addSeeking_40 ?_
    refine n_aload_n (i := 0) dX7_addSeeking_41 rfl rfl ?_
    refine n_dup dX7_addSeeking_42 rfl ?_
    refine p_geti fl_X7_83 (sh_41 _ _) rfl dX7_addSeeking_43 ?_
    refine n_iconst (1 : Int32) dX7_addSeeking_46 ic_1 ?_
    refine n_iadd dX7_addSeeking_47 ?_
    obtain ⟨s5, hs5, h⟩ := yb_bind h
    refine p_puti hs5 fp_X7_83 (sh_41 _ _) rfl rfl rfl dX7_addSeeking_48 ?_
    refine n_iconst (0 : Int32) dX7_addSeeking_51 ic_0 ?_
    refine n_istore (i := 4) (vs' := [some (.ref (yb_ad G 41)), some (.int a1), some (.int a2), some (.int a3), some (.int (0 : Int32))]) dX7_addSeeking_52 (Nat.le_of_ble_eq_true rfl) rfl rfl ?_
    exact p_jump (tl_X7_addSeeking_54 h) (And.intro rfl (And.intro rfl trivial))
  · have h := yb_ifn c1 h
    refine n_iconst (0 : Int32) dX7_addSeeking_9 ic_0 ?_
    cases h
    exact n_iret dX7_addSeeking_10 rfl (by decide) (Nat.le_refl _) (Nat.le_refl _) ⟨rfl, rfl⟩
set_option maxHeartbeats 4000000 in
set_option maxRecDepth 20000 in
theorem t_X11_seek {G : yb_G} {X : List (FieldType × Nat)} {a1 : Int32} {a2 : Int32} {a3 : Int32} {s : yb_S} {out : (Int32 × yb_S)} (h : f_X11_seek a1 a2 a3 s = some out) : Ct G yX11_seek cX11_seek 4 (Option.some .boolean) (yb_rm 5) [.ref (yb_ad G 0), .int a1, .int a2, .int a3] (yb_mk s X) (yb_qi X out.2 out.1) := by
  refine Ct.of (own := RX11) (ini := false) (vs := [some (.ref (yb_ad G 0)), some (.int a1), some (.int a2), some (.int a3)]) ⟨rfl, by decide +kernel⟩ (fun h => by cases h) (Nat.le_of_ble_eq_true rfl) rfl ?_
  unfold f_X11_seek at h
  refine n_aload_n (i := 0) dX11_seek_0 rfl rfl ?_
  refine p_getr fl_X11_10 (sh_0 _ _) rfl (rR_0_0 _ _) dX11_seek_1 ?_
  refine p_getr fl_X11_100 (sh_1 _ _) rfl (rR_1_2 _ _) dX11_seek_4 ?_
  refine n_iload_n (i := 1) dX11_seek_7 rfl rfl ?_
  obtain ⟨q1, hq1, h⟩ := yb_bind h
  refine p_callVi (As := [.int a1]) (t_X2_has hq1) cv_X11_127 (sh_21 _ _) rfl rfl (Nat.le_of_ble_eq_true rfl) dX11_seek_8 (yb_rok (Nat.le_of_ble_eq_true rfl) (by decide)) ⟨rfl, rfl⟩ ⟨Nat.le_refl _, Nat.le_refl _⟩ (fun k2 => ?_)
  refine n_if_eq 22 dX11_seek_11 (by decide) (fun c3 => ?_) (fun c3 => ?_)
  · have h := yb_ifp c3 h
    refine n_iconst (0 : Int32) dX11_seek_22 ic_0 ?_
    cases h
    exact n_iret dX11_seek_23 rfl (by decide) (Nat.le_refl _) (Nat.le_refl _) ⟨rfl, rfl⟩
  · have h := yb_ifn c3 h
    refine n_iload_n (i := 2) dX11_seek_14 rfl rfl ?_
    refine n_iload_n (i := 3) dX11_seek_15 rfl rfl ?_
    obtain ⟨q4, hq4, h⟩ := yb_bind h
    refine p_callSi (As := [.int a2, .int a3]) (t_X11_canBeSought hq4) cs_X11_123 rfl rfl (Nat.le_of_ble_eq_true rfl) dX11_seek_16 (yb_rok (Nat.le_of_ble_eq_true rfl) (by decide)) ⟨rfl, rfl⟩ ⟨Nat.le_refl _, Nat.le_refl _⟩ (fun k5 => ?_)
    refine n_if_ne 24 dX11_seek_19 (by decide) (fun c6 => ?_) (fun c6 => ?_)
    · have h := yb_ifn c6 h
      refine n_aload_n (i := 0) dX11_seek_24 rfl rfl ?_
      refine p_getr fl_X11_10 (sh_0 _ _) rfl (rR_0_0 _ _) dX11_seek_25 ?_
      refine p_getr fl_X11_128 (sh_1 _ _) rfl (rR_1_3 _ _) dX11_seek_28 ?_
      refine n_iload_n (i := 1) dX11_seek_31 rfl rfl ?_
      refine n_iload_n (i := 2) dX11_seek_32 rfl rfl ?_
      refine n_iload_n (i := 3) dX11_seek_33 rfl rfl ?_
      obtain ⟨q7, hq7, h⟩ := yb_bind h
      refine p_callVi (As := [.int a1, .int a2, .int a3]) (t_X7_addSeeking hq7) cv_X11_168 (sh_41 _ _) rfl rfl (Nat.le_of_ble_eq_true rfl) dX11_seek_34 (yb_rok (Nat.le_of_ble_eq_true rfl) (by decide)) ⟨rfl, rfl⟩ ⟨Nat.le_refl _, Nat.le_refl _⟩ (fun k8 => ?_)
      cases h
      exact n_iret dX11_seek_37 rfl (yb_okv_b k8) (Nat.le_refl _) (Nat.le_refl _) ⟨rfl, rfl⟩
    · have h := yb_ifp c6 h
      refine n_iconst (0 : Int32) dX11_seek_22 ic_0 ?_
      cases h
      exact n_iret dX11_seek_23 rfl (by decide) (Nat.le_refl _) (Nat.le_refl _) ⟨rfl, rfl⟩
set_option maxHeartbeats 4000000 in
set_option maxRecDepth 20000 in
theorem t_l_X5_enact_92_53 {G : yb_G} {X : List (FieldType × Nat)} {x2 : Int32} {out : (Int32 × yb_S)} : ∀ (k0 : Nat) (x3 : Int32) (s : yb_S), l_X5_enact_92_53 x2 k0 x3 s = some out → Rn G RX5 cX5_enact 4 (Option.some .int) false (yb_rm 1) (yb_qi X out.2 out.1) 0 0 53 [some (.ref (yb_ad G 54)), some (.ref (yb_ad G 92)), some (.int x2), some (.int x3)] [] (yb_mk s X) := by
  intro k0
  induction k0 with
  | zero => intro x3 s h; cases h
  | succ k0 ih =>
    intro x3 s h
    have h : f_X5_enact_92_53 (fun x3 s => l_X5_enact_92_53 x2 k0 x3 s) x2 x3 s = some out := h
    have hrc53 := ih
    unfold f_X5_enact_92_53 at h
    refine n_iload_n (i := 3) dX5_enact_53 rfl rfl ?_
    refine n_bipush (6 : Int32) dX5_enact_54 bp_6 ?_
    refine n_icmp_ge 99 dX5_enact_56 (by decide) (fun c3 => ?_) (fun c3 => ?_)
    · have h := yb_ifp c3 h
      refine n_aload_n (i := 0) dX5_enact_99 rfl rfl ?_
      refine p_getr fl_X5_15 (sh_54 _ _) rfl (rR_54_2 _ _) dX5_enact_100 ?_
      refine n_aload_n (i := 0) dX5_enact_103 rfl rfl ?_
      refine p_geti fl_X5_36 (sh_54 _ _) rfl dX5_enact_104 ?_
      refine n_iload_n (i := 2) dX5_enact_107 rfl rfl ?_
      obtain ⟨s4, hs4, h⟩ := yb_bind h
      refine p_iast hs4 (sh_55 _ _) dX5_enact_108 ?_
      refine n_aload_n (i := 0) dX5_enact_109 rfl rfl ?_
      refine p_getr fl_X5_19 (sh_54 _ _) rfl (rR_54_3 _ _) dX5_enact_110 ?_
      refine n_aload_n (i := 0) dX5_enact_113 rfl rfl ?_
      refine p_geti fl_X5_36 (sh_54 _ _) rfl dX5_enact_114 ?_
      refine n_iconst (-1 : Int32) dX5_enact_117 ic_m1 ?_
      obtain ⟨s5, hs5, h⟩ := yb_bind h
      refine p_iast hs5 (sh_56 _ _) dX5_enact_118 ?_
      refine n_aload_n (i := 0) dX5_enact_119 rfl rfl ?_
      refine n_dup dX5_enact_120 rfl ?_
      refine p_geti fl_X5_36 (sh_54 _ _) rfl dX5_enact_121 ?_
      refine n_iconst (1 : Int32) dX5_enact_124 ic_1 ?_
      refine n_iadd dX5_enact_125 ?_
      obtain ⟨s6, hs6, h⟩ := yb_bind h
      refine p_puti hs6 fp_X5_36 (sh_54 _ _) rfl rfl rfl dX5_enact_126 ?_
      refine n_aload_n (i := 0) dX5_enact_129 rfl rfl ?_
      refine p_geti fl_X5_36 (sh_54 _ _) rfl dX5_enact_130 ?_
      refine n_iconst (1 : Int32) dX5_enact_133 ic_1 ?_
      refine n_isub dX5_enact_134 ?_
      cases h
      exact n_iret dX5_enact_135 rfl rfl (Nat.le_refl _) (Nat.le_refl _) ⟨rfl, rfl⟩
    · have h := yb_ifn c3 h
      refine n_aload_n (i := 0) dX5_enact_59 rfl rfl ?_
      refine p_getr fl_X5_27 (sh_54 _ _) rfl (rR_54_5 _ _) dX5_enact_60 ?_
      refine n_aload_n (i := 0) dX5_enact_63 rfl rfl ?_
      refine p_geti fl_X5_36 (sh_54 _ _) rfl dX5_enact_64 ?_
      obtain ⟨r7, hr7, h⟩ := yb_bind h
      refine p_aald hr7 (sh_68 _ _) (by decide) rfl (rF_68 _ _) dX5_enact_67 ?_
      refine n_iload_n (i := 3) dX5_enact_68 rfl rfl ?_
      refine n_aload_n (i := 1) dX5_enact_69 rfl rfl ?_
      refine p_getr fl_X5_46 (sh_92 _ _) rfl (rR_92_4 _ _) dX5_enact_70 ?_
      refine n_iload_n (i := 3) dX5_enact_73 rfl rfl ?_
      obtain ⟨v8, hv8, h⟩ := yb_bind h
      refine p_iald hv8 (sh_94 _ _) dX5_enact_74 ?_
      obtain ⟨s9, hs9, h⟩ := yb_bind h
      refine p_iast hs9 (shF_68 hr7 _ _) dX5_enact_75 ?_
      refine n_aload_n (i := 0) dX5_enact_76 rfl rfl ?_
      refine p_getr fl_X5_30 (sh_54 _ _) rfl (rR_54_6 _ _) dX5_enact_77 ?_
      refine n_aload_n (i := 0) dX5_enact_80 rfl rfl ?_
      refine p_geti fl_X5_36 (sh_54 _ _) rfl dX5_enact_81 ?_
      obtain ⟨r10, hr10, h⟩ := yb_bind h
      refine p_aald hr10 (sh_79 _ _) (by decide) rfl (rF_79 _ _) dX5_enact_84 ?_
      refine n_iload_n (i := 3) dX5_enact_85 rfl rfl ?_
      refine n_aload_n (i := 1) dX5_enact_86 rfl rfl ?_
      refine p_getr fl_X5_48 (sh_92 _ _) rfl (rR_92_5 _ _) dX5_enact_87 ?_
      refine n_iload_n (i := 3) dX5_enact_90 rfl rfl ?_
      obtain ⟨v11, hv11, h⟩ := yb_bind h
      refine p_iald hv11 (sh_95 _ _) dX5_enact_91 ?_
      obtain ⟨s12, hs12, h⟩ := yb_bind h
      refine p_iast hs12 (shF_79 hr10 _ _) dX5_enact_92 ?_
      refine n_iinc (vs' := [some (.ref (yb_ad G 54)), some (.ref (yb_ad G 92)), some (.int x2), some (.int (x3 + (1 : Int32)))]) dX5_enact_93 rfl (ii_1 _) (Nat.le_of_ble_eq_true rfl) rfl rfl ?_
      refine n_goto 53 dX5_enact_96 (by decide) ?_
      exact p_jump (hrc53 (x3 + (1 : Int32)) s12 h) (And.intro rfl (And.intro rfl (And.intro rfl (And.intro rfl trivial))))
set_option maxHeartbeats 4000000 in
set_option maxRecDepth 20000 in
theorem tl_X5_enact_92_53 {G : yb_G} {X : List (FieldType × Nat)} {x2 : Int32} {out : (Int32 × yb_S)} {x3 : Int32} {s : yb_S} (h : l_X5_enact_92_53 x2 yb_N x3 s = some out) : Rn G RX5 cX5_enact 4 (Option.some .int) false (yb_rm 1) (yb_qi X out.2 out.1) 0 0 53 [some (.ref (yb_ad G 54)), some (.ref (yb_ad G 92)), some (.int x2), some (.int x3)] [] (yb_mk s X) := t_l_X5_enact_92_53 _ _ _ h
set_option maxHeartbeats 4000000 in
set_option maxRecDepth 20000 in
theorem tj_X5_enact_92_51 {G : yb_G} {X : List (FieldType × Nat)} {x2 : Int32} {s : yb_S} {out : (Int32 × yb_S)} (h : j_X5_enact_92_51 x2 s = some out) : Rn G RX5 cX5_enact 4 (Option.some .int) false (yb_rm 1) (yb_qi X out.2 out.1) 0 0 51 [some (.ref (yb_ad G 54)), some (.ref (yb_ad G 92)), some (.int x2), none] [] (yb_mk s X) := by
  unfold j_X5_enact_92_51 at h
  refine n_iconst (0 : Int32) dX5_enact_51 ic_0 ?_
  refine n_istore_n (i := 3) (vs' := [some (.ref (yb_ad G 54)), some (.ref (yb_ad G 92)), some (.int x2), some (.int (0 : Int32))]) dX5_enact_52 rfl (Nat.le_of_ble_eq_true rfl) rfl rfl ?_
  exact p_jump (tl_X5_enact_92_53 h) (And.intro rfl (And.intro rfl (And.intro rfl (And.intro rfl trivial))))
set_option maxHeartbeats 4000000 in
set_option maxRecDepth 20000 in
theorem t_l_X5_enact_92_13 {G : yb_G} {X : List (FieldType × Nat)} {x2 : Int32} {out : (Int32 × yb_S)} : ∀ (k0 : Nat) (x3 : Int32) (s : yb_S), l_X5_enact_92_13 x2 k0 x3 s = some out → Rn G RX5 cX5_enact 4 (Option.some .int) false (yb_rm 1) (yb_qi X out.2 out.1) 0 0 13 [some (.ref (yb_ad G 54)), some (.ref (yb_ad G 92)), some (.int x2), some (.int x3)] [] (yb_mk s X) := by
  intro k0
  induction k0 with
  | zero => intro x3 s h; cases h
  | succ k0 ih =>
    intro x3 s h
    have h : f_X5_enact_92_13 (fun x3 s => l_X5_enact_92_13 x2 k0 x3 s) x2 x3 s = some out := h
    have hrc13 := ih
    unfold f_X5_enact_92_13 at h
    refine n_iload_n (i := 3) dX5_enact_13 rfl rfl ?_
    refine n_aload_n (i := 1) dX5_enact_14 rfl rfl ?_
    refine p_geti fl_X5_39 (sh_92 _ _) rfl dX5_enact_15 ?_
    refine n_icmp_ge 51 dX5_enact_18 (by decide) (fun c2 => ?_) (fun c2 => ?_)
    · have h := yb_ifp c2 h
      exact p_jump (tj_X5_enact_92_51 h) (And.intro rfl (And.intro rfl (And.intro rfl trivial)))
    · have h := yb_ifn c2 h
      refine n_iload_n (i := 3) dX5_enact_21 rfl rfl ?_
      refine n_sipush (500 : Int32) dX5_enact_22 sp_500 ?_
      refine n_icmp_ge 51 dX5_enact_25 (by decide) (fun c13 => ?_) (fun c13 => ?_)
      · have h := yb_ifp c13 h
        exact p_jump (tj_X5_enact_92_51 h) (And.intro rfl (And.intro rfl (And.intro rfl trivial)))
      · have h := yb_ifn c13 h
        refine n_aload_n (i := 0) dX5_enact_28 rfl rfl ?_
        refine p_getr fl_X5_24 (sh_54 _ _) rfl (rR_54_4 _ _) dX5_enact_29 ?_
        refine n_aload_n (i := 0) dX5_enact_32 rfl rfl ?_
        refine p_geti fl_X5_36 (sh_54 _ _) rfl dX5_enact_33 ?_
        obtain ⟨r14, hr14, h⟩ := yb_bind h
        refine p_aald hr14 (sh_57 _ _) (by decide) rfl (rF_57 _ _) dX5_enact_36 ?_
        refine n_iload_n (i := 3) dX5_enact_37 rfl rfl ?_
        refine n_aload_n (i := 1) dX5_enact_38 rfl rfl ?_
        refine p_getr fl_X5_44 (sh_92 _ _) rfl (rR_92_3 _ _) dX5_enact_39 ?_
        refine n_iload_n (i := 3) dX5_enact_42 rfl rfl ?_
        obtain ⟨v15, hv15, h⟩ := yb_bind h
        refine p_iald hv15 (sh_93 _ _) dX5_enact_43 ?_
        obtain ⟨s16, hs16, h⟩ := yb_bind h
        refine p_iast hs16 (shF_57 hr14 _ _) dX5_enact_44 ?_
        refine n_iinc (vs' := [some (.ref (yb_ad G 54)), some (.ref (yb_ad G 92)), some (.int x2), some (.int (x3 + (1 : Int32)))]) dX5_enact_45 rfl (ii_1 _) (Nat.le_of_ble_eq_true rfl) rfl rfl ?_
        refine n_goto 13 dX5_enact_48 (by decide) ?_
        exact p_jump (hrc13 (x3 + (1 : Int32)) s16 h) (And.intro rfl (And.intro rfl (And.intro rfl (And.intro rfl trivial))))
set_option maxHeartbeats 4000000 in
set_option maxRecDepth 20000 in
theorem tl_X5_enact_92_13 {G : yb_G} {X : List (FieldType × Nat)} {x2 : Int32} {out : (Int32 × yb_S)} {x3 : Int32} {s : yb_S} (h : l_X5_enact_92_13 x2 yb_N x3 s = some out) : Rn G RX5 cX5_enact 4 (Option.some .int) false (yb_rm 1) (yb_qi X out.2 out.1) 0 0 13 [some (.ref (yb_ad G 54)), some (.ref (yb_ad G 92)), some (.int x2), some (.int x3)] [] (yb_mk s X) := t_l_X5_enact_92_13 _ _ _ h
set_option maxHeartbeats 4000000 in
set_option maxRecDepth 20000 in
theorem t_X5_enact_92 {G : yb_G} {X : List (FieldType × Nat)} {a2 : Int32} {s : yb_S} {out : (Int32 × yb_S)} (h : f_X5_enact_92 a2 s = some out) : Ct G yX5_enact cX5_enact 4 (Option.some .int) (yb_rm 1) [.ref (yb_ad G 54), .ref (yb_ad G 92), .int a2] (yb_mk s X) (yb_qi X out.2 out.1) := by
  refine Ct.of (own := RX5) (ini := false) (vs := [some (.ref (yb_ad G 54)), some (.ref (yb_ad G 92)), some (.int a2), none]) ⟨rfl, by decide +kernel⟩ (fun h => by cases h) (Nat.le_of_ble_eq_true rfl) rfl ?_
  unfold f_X5_enact_92 at h
  refine n_aload_n (i := 0) dX5_enact_0 rfl rfl ?_
  refine p_geti fl_X5_36 (sh_54 _ _) rfl dX5_enact_1 ?_
  refine n_bipush (10 : Int32) dX5_enact_4 bp_10 ?_
  refine n_icmp_lt 11 dX5_enact_6 (by decide) (fun c1 => ?_) (fun c1 => ?_)
  · have h := yb_ifp c1 h
    refine n_iconst (0 : Int32) dX5_enact_11 ic_0 ?_
    refine n_istore_n (i := 3) (vs' := [some (.ref (yb_ad G 54)), some (.ref (yb_ad G 92)), some (.int a2), some (.int (0 : Int32))]) dX5_enact_12 rfl (Nat.le_of_ble_eq_true rfl) rfl rfl ?_
    exact p_jump (tl_X5_enact_92_13 h) (And.intro rfl (And.intro rfl (And.intro rfl (And.intro rfl trivial))))
  · have h := yb_ifn c1 h
    refine n_iconst (-1 : Int32) dX5_enact_9 ic_m1 ?_
    cases h
    exact n_iret dX5_enact_10 rfl rfl (Nat.le_refl _) (Nat.le_refl _) ⟨rfl, rfl⟩
set_option maxHeartbeats 4000000 in
set_option maxRecDepth 20000 in
theorem t_X11_sheet {G : yb_G} {X : List (FieldType × Nat)} {s : yb_S} {out : (Int32 × yb_S)} (h : f_X11_sheet s = some out) : Ct G yX11_sheet cX11_sheet 2 (Option.some .int) (yb_rm 247) [.ref (yb_ad G 0)] (yb_mk s X) (yb_qi X out.2 out.1) := by
  refine Ct.of (own := RX11) (ini := false) (vs := [some (.ref (yb_ad G 0)), none]) ⟨rfl, by decide +kernel⟩ (fun h => by cases h) (Nat.le_of_ble_eq_true rfl) rfl ?_
  unfold f_X11_sheet at h
  refine n_aload_n (i := 0) dX11_sheet_0 rfl rfl ?_
  refine p_getr fl_X11_19 (sh_0 _ _) rfl (rR_0_1 _ _) dX11_sheet_1 ?_
  obtain ⟨q1, hq1, h⟩ := yb_bind h
  refine p_callVv (As := []) (t_X9_parse hq1) cv_X11_191 (sh_92 _ _) rfl rfl (Nat.le_of_ble_eq_true rfl) dX11_sheet_4 (yb_rok (Nat.le_of_ble_eq_true rfl) (by decide)) ⟨rfl, rfl⟩ ⟨Nat.le_refl _, Nat.le_refl _⟩ (fun k2 => ?_)
  refine n_aload_n (i := 0) dX11_sheet_7 rfl rfl ?_
  refine p_getr fl_X11_19 (sh_0 _ _) rfl (rR_0_1 _ _) dX11_sheet_8 ?_
  refine p_geti fl_X11_194 (sh_92 _ _) rfl dX11_sheet_11 ?_
  refine n_iconst (-1 : Int32) dX11_sheet_14 ic_m1 ?_
  refine n_icmp_eq 20 dX11_sheet_15 (by decide) (fun c3 => ?_) (fun c3 => ?_)
  · have h := yb_ifp c3 h
    refine n_aload_n (i := 0) dX11_sheet_20 rfl rfl ?_
    refine p_getr fl_X11_10 (sh_0 _ _) rfl (rR_0_0 _ _) dX11_sheet_21 ?_
    refine p_getr fl_X11_197 (sh_1 _ _) rfl (rR_1_4 _ _) dX11_sheet_24 ?_
    refine n_aload_n (i := 0) dX11_sheet_27 rfl rfl ?_
    refine p_getr fl_X11_19 (sh_0 _ _) rfl (rR_0_1 _ _) dX11_sheet_28 ?_
    refine n_aload_n (i := 0) dX11_sheet_31 rfl rfl ?_
    refine p_getr fl_X11_10 (sh_0 _ _) rfl (rR_0_0 _ _) dX11_sheet_32 ?_
    refine p_geti fl_X11_104 (sh_1 _ _) rfl dX11_sheet_35 ?_
    obtain ⟨q4, hq4, h⟩ := yb_bind h
    refine p_callVi (As := [.ref (yb_ad G 92), .int (q1.1 1 5)]) (t_X5_enact_92 hq4) cv_X11_201 (sh_54 _ _) rfl rfl (Nat.le_of_ble_eq_true rfl) dX11_sheet_38 (yb_rok (Nat.le_of_ble_eq_true rfl) (by decide)) ⟨rfl, rfl⟩ ⟨Nat.le_refl _, Nat.le_refl _⟩ (fun k5 => ?_)
    refine n_istore_n (i := 1) (vs' := [some (.ref (yb_ad G 0)), some (.int q4.1)]) dX11_sheet_41 rfl (Nat.le_of_ble_eq_true rfl) rfl rfl ?_
    refine n_iload_n (i := 1) dX11_sheet_42 rfl rfl ?_
    refine n_iconst (-1 : Int32) dX11_sheet_43 ic_m1 ?_
    refine n_icmp_eq 55 dX11_sheet_44 (by decide) (fun c6 => ?_) (fun c6 => ?_)
    · have h := yb_ifp c6 h
      refine n_iload_n (i := 1) dX11_sheet_55 rfl rfl ?_
      cases h
      exact n_iret dX11_sheet_56 rfl rfl (Nat.le_refl _) (Nat.le_refl _) ⟨rfl, rfl⟩
    · have h := yb_ifn c6 h
      refine n_aload_n (i := 0) dX11_sheet_47 rfl rfl ?_
      refine p_getr fl_X11_19 (sh_0 _ _) rfl (rR_0_1 _ _) dX11_sheet_48 ?_
      refine n_iconst (0 : Int32) dX11_sheet_51 ic_0 ?_
      obtain ⟨s7, hs7, h⟩ := yb_bind h
      refine p_puti hs7 fp_X11_188 (sh_92 _ _) rfl rfl rfl dX11_sheet_52 ?_
      refine n_iload_n (i := 1) dX11_sheet_55 rfl rfl ?_
      cases h
      exact n_iret dX11_sheet_56 rfl rfl (Nat.le_refl _) (Nat.le_refl _) ⟨rfl, rfl⟩
  · have h := yb_ifn c3 h
    refine n_iconst (-1 : Int32) dX11_sheet_18 ic_m1 ?_
    cases h
    exact n_iret dX11_sheet_19 rfl rfl (Nat.le_refl _) (Nat.le_refl _) ⟨rfl, rfl⟩
set_option maxHeartbeats 4000000 in
set_option maxRecDepth 20000 in
theorem t_X8_canAsk {G : yb_G} {X : List (FieldType × Nat)} {a1 : Int32} {s : yb_S} {out : Int32} (h : f_X8_canAsk a1 s = some out) : Ct G yX8_canAsk cX8_canAsk 2 (Option.some .boolean) (yb_rm 2) [.ref (yb_ad G 1), .int a1] (yb_mk s X) (yb_qi X s out) := by
  refine Ct.of (own := RX8) (ini := false) (vs := [some (.ref (yb_ad G 1)), some (.int a1)]) ⟨rfl, by decide +kernel⟩ (fun h => by cases h) (Nat.le_of_ble_eq_true rfl) rfl ?_
  unfold f_X8_canAsk at h
  refine n_aload_n (i := 0) dX8_canAsk_0 rfl rfl ?_
  refine p_getr fl_X8_28 (sh_1 _ _) rfl (rR_1_2 _ _) dX8_canAsk_1 ?_
  refine n_iload_n (i := 1) dX8_canAsk_4 rfl rfl ?_
  obtain ⟨q1, hq1, h⟩ := yb_bind h
  refine p_callVi (As := [.int a1]) (t_X2_has hq1) cv_X8_50 (sh_21 _ _) rfl rfl (Nat.le_of_ble_eq_true rfl) dX8_canAsk_5 (yb_rok (Nat.le_of_ble_eq_true rfl) (by decide)) ⟨rfl, rfl⟩ ⟨Nat.le_refl _, Nat.le_refl _⟩ (fun k2 => ?_)
  refine n_if_ne 31 dX8_canAsk_8 (by decide) (fun c3 => ?_) (fun c3 => ?_)
  · have h := yb_ifn c3 h
    refine n_iconst (1 : Int32) dX8_canAsk_31 ic_1 ?_
    refine n_goto 36 dX8_canAsk_32 (by decide) ?_
    cases h
    exact n_iret dX8_canAsk_36 rfl (by decide) (Nat.le_refl _) (Nat.le_refl _) ⟨rfl, rfl⟩
  · have h := yb_ifp c3 h
    refine n_iload_n (i := 1) dX8_canAsk_11 rfl rfl ?_
    refine n_bipush (100 : Int32) dX8_canAsk_12 bp_100 ?_
    refine n_icmp_lt 35 dX8_canAsk_14 (by decide) (fun c4 => ?_) (fun c4 => ?_)
    · have h := yb_ifp c4 h
      refine n_iconst (0 : Int32) dX8_canAsk_35 ic_0 ?_
      cases h
      exact n_iret dX8_canAsk_36 rfl (by decide) (Nat.le_refl _) (Nat.le_refl _) ⟨rfl, rfl⟩
    · have h := yb_ifn c4 h
      refine n_aload_n (i := 0) dX8_canAsk_17 rfl rfl ?_
      refine p_getr fl_X8_12 (sh_1 _ _) rfl (rR_1_0 _ _) dX8_canAsk_18 ?_
      refine n_iload_n (i := 1) dX8_canAsk_21 rfl rfl ?_
      refine n_bipush (100 : Int32) dX8_canAsk_22 bp_100 ?_
      refine n_isub dX8_canAsk_24 ?_
      obtain ⟨q5, hq5, h⟩ := yb_bind h
      refine p_callVi (As := [.int (a1 - (100 : Int32))]) (t_X10_has hq5) cv_X8_176 (sh_2 _ _) rfl rfl (Nat.le_of_ble_eq_true rfl) dX8_canAsk_25 (yb_rok (Nat.le_of_ble_eq_true rfl) (by decide)) ⟨rfl, rfl⟩ ⟨Nat.le_refl _, Nat.le_refl _⟩ (fun k6 => ?_)
      refine n_if_eq 35 dX8_canAsk_28 (by decide) (fun c7 => ?_) (fun c7 => ?_)
      · have h := yb_ifp c7 h
        refine n_iconst (0 : Int32) dX8_canAsk_35 ic_0 ?_
        cases h
        exact n_iret dX8_canAsk_36 rfl (by decide) (Nat.le_refl _) (Nat.le_refl _) ⟨rfl, rfl⟩
      · have h := yb_ifn c7 h
        refine n_iconst (1 : Int32) dX8_canAsk_31 ic_1 ?_
        refine n_goto 36 dX8_canAsk_32 (by decide) ?_
        cases h
        exact n_iret dX8_canAsk_36 rfl (by decide) (Nat.le_refl _) (Nat.le_refl _) ⟨rfl, rfl⟩
set_option maxHeartbeats 4000000 in
set_option maxRecDepth 20000 in
theorem tj_X8_isShown_47 {G : yb_G} {X : List (FieldType × Nat)} {y0 : Int32} {y1 : Int32} {y2 : Int32} {y3 : Int32} {y4 : Int32} {s : yb_S} {out : (Int32 × yb_S)} (h : j_X8_isShown_47 y0 y1 y2 y3 y4 s = some out) : Rn G RX8 cX8_isShown 4 (Option.some .boolean) false (yb_rm 5) (yb_qi X out.2 out.1) 0 0 47 [none, none, none, none] [.int y0, .int y1, .int y2, .int y3, .int y4, .ref (yb_ad G 1)] (yb_mk s X) := by
  unfold j_X8_isShown_47 at h
  obtain ⟨q4, hq4, h⟩ := yb_bind h
  refine p_callVi (As := [.int y4, .int y3, .int y2, .int y1, .int y0]) (t_X8_tells hq4) cv_X8_144 (sh_1 _ _) rfl rfl (Nat.le_of_ble_eq_true rfl) dX8_isShown_47 (yb_rok (Nat.le_of_ble_eq_true rfl) (by decide)) ⟨rfl, rfl⟩ ⟨Nat.le_refl _, Nat.le_refl _⟩ (fun k5 => ?_)
  refine n_iconst (1 : Int32) dX8_isShown_50 ic_1 ?_
  refine n_icmp_ne 58 dX8_isShown_51 (by decide) (fun c6 => ?_) (fun c6 => ?_)
  · have h := yb_ifn c6 h
    refine n_iconst (0 : Int32) dX8_isShown_58 ic_0 ?_
    cases h
    exact n_iret dX8_isShown_59 rfl (by decide) (Nat.le_refl _) (Nat.le_refl _) ⟨rfl, rfl⟩
  · have h := yb_ifp c6 h
    refine n_iconst (1 : Int32) dX8_isShown_54 ic_1 ?_
    refine n_goto 59 dX8_isShown_55 (by decide) ?_
    cases h
    exact n_iret dX8_isShown_59 rfl (by decide) (Nat.le_refl _) (Nat.le_refl _) ⟨rfl, rfl⟩
set_option maxHeartbeats 4000000 in
set_option maxRecDepth 20000 in
theorem tj_X8_isShown_27 {G : yb_G} {X : List (FieldType × Nat)} {x1 : Int32} {x2 : Int32} {y0 : Int32} {s : yb_S} {out : (Int32 × yb_S)} (h : j_X8_isShown_27 x1 x2 y0 s = some out) : Rn G RX8 cX8_isShown 4 (Option.some .boolean) false (yb_rm 5) (yb_qi X out.2 out.1) 0 0 27 [some (.ref (yb_ad G 1)), some (.int x1), some (.int x2), none] [.int y0] (yb_mk s X) := by
  unfold j_X8_isShown_27 at h
  refine n_istore_n (i := 3) (vs' := [some (.ref (yb_ad G 1)), some (.int x1), some (.int x2), some (.int y0)]) dX8_isShown_27 rfl (Nat.le_of_ble_eq_true rfl) rfl rfl ?_
  refine n_iload_n (i := 3) dX8_isShown_28 rfl rfl ?_
  refine n_if_ne 54 dX8_isShown_29 (by decide) (fun c2 => ?_) (fun c2 => ?_)
  · have h := yb_ifn c2 h
    refine n_iconst (1 : Int32) dX8_isShown_54 ic_1 ?_
    refine n_goto 59 dX8_isShown_55 (by decide) ?_
    cases h
    exact n_iret dX8_isShown_59 rfl (by decide) (Nat.le_refl _) (Nat.le_refl _) ⟨rfl, rfl⟩
  · have h := yb_ifp c2 h
    refine n_aload_n (i := 0) dX8_isShown_32 rfl rfl ?_
    refine n_iconst (5 : Int32) dX8_isShown_33 ic_5 ?_
    refine n_iload_n (i := 2) dX8_isShown_34 rfl rfl ?_
    refine n_iconst (-1 : Int32) dX8_isShown_35 ic_m1 ?_
    refine n_iconst (-1 : Int32) dX8_isShown_36 ic_m1 ?_
    refine n_iload_n (i := 1) dX8_isShown_37 rfl rfl ?_
    refine n_iload_n (i := 2) dX8_isShown_38 rfl rfl ?_
    refine n_icmp_ne 46 dX8_isShown_39 (by decide) (fun c3 => ?_) (fun c3 => ?_)
    · have h := yb_ifn c3 h
      refine n_iconst (0 : Int32) dX8_isShown_46 ic_0 ?_
      exact p_jump (tj_X8_isShown_47 h) trivial
    · have h := yb_ifp c3 h
      refine n_iconst (1 : Int32) dX8_isShown_42 ic_1 ?_
      refine n_goto 47 dX8_isShown_43 (by decide) ?_
      exact p_jump (tj_X8_isShown_47 h) trivial
set_option maxHeartbeats 4000000 in
set_option maxRecDepth 20000 in
theorem tj_X8_isShown_26 {G : yb_G} {X : List (FieldType × Nat)} {x1 : Int32} {x2 : Int32} {s : yb_S} {out : (Int32 × yb_S)} (h : j_X8_isShown_26 x1 x2 s = some out) : Rn G RX8 cX8_isShown 4 (Option.some .boolean) false (yb_rm 5) (yb_qi X out.2 out.1) 0 0 26 [some (.ref (yb_ad G 1)), some (.int x1), some (.int x2), none] [] (yb_mk s X) := by
  unfold j_X8_isShown_26 at h
  refine n_iconst (0 : Int32) dX8_isShown_26 ic_0 ?_
  exact p_jump (tj_X8_isShown_27 h) (And.intro rfl (And.intro rfl (And.intro rfl trivial)))
set_option maxHeartbeats 4000000 in
set_option maxRecDepth 20000 in
theorem t_X8_isShown {G : yb_G} {X : List (FieldType × Nat)} {a1 : Int32} {a2 : Int32} {s : yb_S} {out : (Int32 × yb_S)} (h : f_X8_isShown a1 a2 s = some out) : Ct G yX8_isShown cX8_isShown 4 (Option.some .boolean) (yb_rm 5) [.ref (yb_ad G 1), .int a1, .int a2] (yb_mk s X) (yb_qi X out.2 out.1) := by
  refine Ct.of (own := RX8) (ini := false) (vs := [some (.ref (yb_ad G 1)), some (.int a1), some (.int a2), none]) ⟨rfl, by decide +kernel⟩ (fun h => by cases h) (Nat.le_of_ble_eq_true rfl) rfl ?_
  unfold f_X8_isShown at h
  refine n_iload_n (i := 1) dX8_isShown_0 rfl rfl ?_
  refine n_bipush (100 : Int32) dX8_isShown_1 bp_100 ?_
  refine n_icmp_lt 26 dX8_isShown_3 (by decide) (fun c1 => ?_) (fun c1 => ?_)
  · have h := yb_ifp c1 h
    exact p_jump (tj_X8_isShown_26 h) (And.intro rfl (And.intro rfl (And.intro rfl trivial)))
  · have h := yb_ifn c1 h
    refine n_aload_n (i := 0) dX8_isShown_6 rfl rfl ?_
    refine p_getr fl_X8_28 (sh_1 _ _) rfl (rR_1_2 _ _) dX8_isShown_7 ?_
    refine p_getr fl_X8_75 (sh_21 _ _) rfl (rR_21_9 _ _) dX8_isShown_10 ?_
    refine n_iload_n (i := 2) dX8_isShown_13 rfl rfl ?_
    obtain ⟨v7, hv7, h⟩ := yb_bind h
    refine p_iald hv7 (sh_30 _ _) dX8_isShown_14 ?_
    refine n_iload_n (i := 1) dX8_isShown_15 rfl rfl ?_
    refine n_bipush (100 : Int32) dX8_isShown_16 bp_100 ?_
    refine n_isub dX8_isShown_18 ?_
    refine n_icmp_ne 26 dX8_isShown_19 (by decide) (fun c8 => ?_) (fun c8 => ?_)
    · have h := yb_ifn c8 h
      exact p_jump (tj_X8_isShown_26 h) (And.intro rfl (And.intro rfl (And.intro rfl trivial)))
    · have h := yb_ifp c8 h
      refine n_iconst (1 : Int32) dX8_isShown_22 ic_1 ?_
      refine n_goto 27 dX8_isShown_23 (by decide) ?_
      exact p_jump (tj_X8_isShown_27 h) (And.intro rfl (And.intro rfl (And.intro rfl trivial)))
set_option maxHeartbeats 4000000 in
set_option maxRecDepth 20000 in
theorem t_X11_show {G : yb_G} {X : List (FieldType × Nat)} {a1 : Int32} {a2 : Int32} {a3 : Int32} {s : yb_S} {out : (Int32 × yb_S)} (h : f_X11_show a1 a2 a3 s = some out) : Ct G yX11_show cX11_show 4 (Option.some .int) (yb_rm 6) [.ref (yb_ad G 0), .int a1, .int a2, .int a3] (yb_mk s X) (yb_qi X out.2 out.1) := by
  refine Ct.of (own := RX11) (ini := false) (vs := [some (.ref (yb_ad G 0)), some (.int a1), some (.int a2), some (.int a3)]) ⟨rfl, by decide +kernel⟩ (fun h => by cases h) (Nat.le_of_ble_eq_true rfl) rfl ?_
  unfold f_X11_show at h
  refine n_aload_n (i := 0) dX11_show_0 rfl rfl ?_
  refine p_getr fl_X11_10 (sh_0 _ _) rfl (rR_0_0 _ _) dX11_show_1 ?_
  refine p_getr fl_X11_100 (sh_1 _ _) rfl (rR_1_2 _ _) dX11_show_4 ?_
  refine n_iload_n (i := 2) dX11_show_7 rfl rfl ?_
  obtain ⟨q1, hq1, h⟩ := yb_bind h
  refine p_callVi (As := [.int a2]) (t_X2_has hq1) cv_X11_127 (sh_21 _ _) rfl rfl (Nat.le_of_ble_eq_true rfl) dX11_show_8 (yb_rok (Nat.le_of_ble_eq_true rfl) (by decide)) ⟨rfl, rfl⟩ ⟨Nat.le_refl _, Nat.le_refl _⟩ (fun k2 => ?_)
  refine n_if_eq 37 dX11_show_11 (by decide) (fun c3 => ?_) (fun c3 => ?_)
  · have h := yb_ifp c3 h
    refine n_iconst (-1 : Int32) dX11_show_37 ic_m1 ?_
    cases h
    exact n_iret dX11_show_38 rfl rfl (Nat.le_refl _) (Nat.le_refl _) ⟨rfl, rfl⟩
  · have h := yb_ifn c3 h
    refine n_aload_n (i := 0) dX11_show_14 rfl rfl ?_
    refine p_getr fl_X11_10 (sh_0 _ _) rfl (rR_0_0 _ _) dX11_show_15 ?_
    refine n_iload_n (i := 1) dX11_show_18 rfl rfl ?_
    obtain ⟨q4, hq4, h⟩ := yb_bind h
    refine p_callVi (As := [.int a1]) (t_X8_canAsk hq4) cv_X11_288 (sh_1 _ _) rfl rfl (Nat.le_of_ble_eq_true rfl) dX11_show_19 (yb_rok (Nat.le_of_ble_eq_true rfl) (by decide)) ⟨rfl, rfl⟩ ⟨Nat.le_refl _, Nat.le_refl _⟩ (fun k5 => ?_)
    refine n_if_eq 37 dX11_show_22 (by decide) (fun c6 => ?_) (fun c6 => ?_)
    · have h := yb_ifp c6 h
      refine n_iconst (-1 : Int32) dX11_show_37 ic_m1 ?_
      cases h
      exact n_iret dX11_show_38 rfl rfl (Nat.le_refl _) (Nat.le_refl _) ⟨rfl, rfl⟩
    · have h := yb_ifn c6 h
      refine n_aload_n (i := 0) dX11_show_25 rfl rfl ?_
      refine p_getr fl_X11_10 (sh_0 _ _) rfl (rR_0_0 _ _) dX11_show_26 ?_
      refine n_iload_n (i := 1) dX11_show_29 rfl rfl ?_
      refine n_iload_n (i := 2) dX11_show_30 rfl rfl ?_
      obtain ⟨q7, hq7, h⟩ := yb_bind h
      refine p_callVi (As := [.int a1, .int a2]) (t_X8_isShown hq7) cv_X11_291 (sh_1 _ _) rfl rfl (Nat.le_of_ble_eq_true rfl) dX11_show_31 (yb_rok (Nat.le_of_ble_eq_true rfl) (by decide)) ⟨rfl, rfl⟩ ⟨Nat.le_refl _, Nat.le_refl _⟩ (fun k8 => ?_)
      refine n_if_ne 39 dX11_show_34 (by decide) (fun c9 => ?_) (fun c9 => ?_)
      · have h := yb_ifn c9 h
        refine n_iload_n (i := 3) dX11_show_39 rfl rfl ?_
        by_cases c10 : a3 = (0 : Int32)
        · have h := yb_ifp c10 h
          refine n_tableIn (off := 32) 72 dX11_show_40 (by rw [c10]; decide) (by rw [c10]; decide) (by rw [c10]; decide) (by decide) ?_
          refine n_aload_n (i := 0) dX11_show_72 rfl rfl ?_
          refine p_getr fl_X11_10 (sh_0 _ _) rfl (rR_0_0 _ _) dX11_show_73 ?_
          refine p_getr fl_X11_100 (sh_1 _ _) rfl (rR_1_2 _ _) dX11_show_76 ?_
          refine p_getr fl_X11_259 (sh_21 _ _) rfl (rR_21_7 _ _) dX11_show_79 ?_
          refine n_iload_n (i := 2) dX11_show_82 rfl rfl ?_
          obtain ⟨v14, hv14, h⟩ := yb_bind h
          refine p_iald hv14 (sh_28 _ _) dX11_show_83 ?_
          cases h
          exact n_iret dX11_show_84 rfl rfl (Nat.le_refl _) (Nat.le_refl _) ⟨rfl, rfl⟩
        · have h := yb_ifn c10 h
          by_cases c11 : a3 = (1 : Int32)
          · have h := yb_ifp c11 h
            refine n_tableIn (off := 45) 85 dX11_show_40 (by rw [c11]; decide) (by rw [c11]; decide) (by rw [c11]; decide) (by decide) ?_
            refine n_aload_n (i := 0) dX11_show_85 rfl rfl ?_
            refine p_getr fl_X11_10 (sh_0 _ _) rfl (rR_0_0 _ _) dX11_show_86 ?_
            refine p_getr fl_X11_100 (sh_1 _ _) rfl (rR_1_2 _ _) dX11_show_89 ?_
            refine p_getr fl_X11_294 (sh_21 _ _) rfl (rR_21_9 _ _) dX11_show_92 ?_
            refine n_iload_n (i := 2) dX11_show_95 rfl rfl ?_
            obtain ⟨v15, hv15, h⟩ := yb_bind h
            refine p_iald hv15 (sh_30 _ _) dX11_show_96 ?_
            cases h
            exact n_iret dX11_show_97 rfl rfl (Nat.le_refl _) (Nat.le_refl _) ⟨rfl, rfl⟩
          · have h := yb_ifn c11 h
            by_cases c12 : a3 = (2 : Int32)
            · have h := yb_ifp c12 h
              refine n_tableIn (off := 58) 98 dX11_show_40 (by rw [c12]; decide) (by rw [c12]; decide) (by rw [c12]; decide) (by decide) ?_
              refine n_aload_n (i := 0) dX11_show_98 rfl rfl ?_
              refine p_getr fl_X11_10 (sh_0 _ _) rfl (rR_0_0 _ _) dX11_show_99 ?_
              refine p_getr fl_X11_100 (sh_1 _ _) rfl (rR_1_2 _ _) dX11_show_102 ?_
              refine p_getr fl_X11_262 (sh_21 _ _) rfl (rR_21_1 _ _) dX11_show_105 ?_
              refine n_iload_n (i := 2) dX11_show_108 rfl rfl ?_
              obtain ⟨v16, hv16, h⟩ := yb_bind h
              refine p_iald hv16 (sh_22 _ _) dX11_show_109 ?_
              cases h
              exact n_iret dX11_show_110 rfl rfl (Nat.le_refl _) (Nat.le_refl _) ⟨rfl, rfl⟩
            · have h := yb_ifn c12 h
              by_cases c13 : a3 = (3 : Int32)
              · have h := yb_ifp c13 h
                refine n_tableIn (off := 71) 111 dX11_show_40 (by rw [c13]; decide) (by rw [c13]; decide) (by rw [c13]; decide) (by decide) ?_
                refine n_aload_n (i := 0) dX11_show_111 rfl rfl ?_
                refine p_getr fl_X11_10 (sh_0 _ _) rfl (rR_0_0 _ _) dX11_show_112 ?_
                refine p_getr fl_X11_100 (sh_1 _ _) rfl (rR_1_2 _ _) dX11_show_115 ?_
                refine p_getr fl_X11_284 (sh_21 _ _) rfl (rR_21_10 _ _) dX11_show_118 ?_
                refine n_iload_n (i := 2) dX11_show_121 rfl rfl ?_
                obtain ⟨v17, hv17, h⟩ := yb_bind h
                refine p_iald hv17 (sh_31 _ _) dX11_show_122 ?_
                cases h
                exact n_iret dX11_show_123 rfl rfl (Nat.le_refl _) (Nat.le_refl _) ⟨rfl, rfl⟩
              · have h := yb_ifn c13 h
                refine n_tableOut 124 dX11_show_40 (by have z0 := lv_neT c10 (a := 0) (by decide); have z1 := lv_neT c11 (a := 1) (by decide); have z2 := lv_neT c12 (a := 2) (by decide); have z3 := lv_neT c13 (a := 3) (by decide); omega) (by decide) ?_
                refine n_iconst (-1 : Int32) dX11_show_124 ic_m1 ?_
                cases h
                exact n_iret dX11_show_125 rfl rfl (Nat.le_refl _) (Nat.le_refl _) ⟨rfl, rfl⟩
      · have h := yb_ifp c9 h
        refine n_iconst (-1 : Int32) dX11_show_37 ic_m1 ?_
        cases h
        exact n_iret dX11_show_38 rfl rfl (Nat.le_refl _) (Nat.le_refl _) ⟨rfl, rfl⟩
set_option maxHeartbeats 4000000 in
set_option maxRecDepth 20000 in
theorem t_X11_strike {G : yb_G} {X : List (FieldType × Nat)} {a1 : Int32} {s : yb_S} {out : (Int32 × yb_S)} (h : f_X11_strike a1 s = some out) : Ct G yX11_strike cX11_strike 2 (Option.some .boolean) (yb_rm 2) [.ref (yb_ad G 0), .int a1] (yb_mk s X) (yb_qi X out.2 out.1) := by
  refine Ct.of (own := RX11) (ini := false) (vs := [some (.ref (yb_ad G 0)), some (.int a1)]) ⟨rfl, by decide +kernel⟩ (fun h => by cases h) (Nat.le_of_ble_eq_true rfl) rfl ?_
  unfold f_X11_strike at h
  refine n_aload_n (i := 0) dX11_strike_0 rfl rfl ?_
  refine p_getr fl_X11_10 (sh_0 _ _) rfl (rR_0_0 _ _) dX11_strike_1 ?_
  refine p_getr fl_X11_197 (sh_1 _ _) rfl (rR_1_4 _ _) dX11_strike_4 ?_
  refine n_iload_n (i := 1) dX11_strike_7 rfl rfl ?_
  obtain ⟨q1, hq1, h⟩ := yb_bind h
  refine p_callVi (As := [.int a1]) (t_X5_has hq1) cv_X11_207 (sh_54 _ _) rfl rfl (Nat.le_of_ble_eq_true rfl) dX11_strike_8 (yb_rok (Nat.le_of_ble_eq_true rfl) (by decide)) ⟨rfl, rfl⟩ ⟨Nat.le_refl _, Nat.le_refl _⟩ (fun k2 => ?_)
  refine n_if_eq 30 dX11_strike_11 (by decide) (fun c3 => ?_) (fun c3 => ?_)
  · have h := yb_ifp c3 h
    refine n_iconst (0 : Int32) dX11_strike_30 ic_0 ?_
    cases h
    exact n_iret dX11_strike_31 rfl (by decide) (Nat.le_refl _) (Nat.le_refl _) ⟨rfl, rfl⟩
  · have h := yb_ifn c3 h
    refine n_aload_n (i := 0) dX11_strike_14 rfl rfl ?_
    refine p_getr fl_X11_10 (sh_0 _ _) rfl (rR_0_0 _ _) dX11_strike_15 ?_
    refine p_getr fl_X11_197 (sh_1 _ _) rfl (rR_1_4 _ _) dX11_strike_18 ?_
    refine p_getr fl_X11_208 (sh_54 _ _) rfl (rR_54_3 _ _) dX11_strike_21 ?_
    refine n_iload_n (i := 1) dX11_strike_24 rfl rfl ?_
    obtain ⟨v4, hv4, h⟩ := yb_bind h
    refine p_iald hv4 (sh_56 _ _) dX11_strike_25 ?_
    refine n_iconst (-1 : Int32) dX11_strike_26 ic_m1 ?_
    refine n_icmp_eq 32 dX11_strike_27 (by decide) (fun c5 => ?_) (fun c5 => ?_)
    · have h := yb_ifp c5 h
      refine n_aload_n (i := 0) dX11_strike_32 rfl rfl ?_
      refine p_getr fl_X11_10 (sh_0 _ _) rfl (rR_0_0 _ _) dX11_strike_33 ?_
      refine p_getr fl_X11_197 (sh_1 _ _) rfl (rR_1_4 _ _) dX11_strike_36 ?_
      refine p_getr fl_X11_208 (sh_54 _ _) rfl (rR_54_3 _ _) dX11_strike_39 ?_
      refine n_iload_n (i := 1) dX11_strike_42 rfl rfl ?_
      refine n_aload_n (i := 0) dX11_strike_43 rfl rfl ?_
      refine p_getr fl_X11_10 (sh_0 _ _) rfl (rR_0_0 _ _) dX11_strike_44 ?_
      refine p_geti fl_X11_104 (sh_1 _ _) rfl dX11_strike_47 ?_
      obtain ⟨s6, hs6, h⟩ := yb_bind h
      refine p_iast hs6 (sh_56 _ _) dX11_strike_50 ?_
      refine n_iconst (1 : Int32) dX11_strike_51 ic_1 ?_
      cases h
      exact n_iret dX11_strike_52 rfl (by decide) (Nat.le_refl _) (Nat.le_refl _) ⟨rfl, rfl⟩
    · have h := yb_ifn c5 h
      refine n_iconst (0 : Int32) dX11_strike_30 ic_0 ?_
      cases h
      exact n_iret dX11_strike_31 rfl (by decide) (Nat.le_refl _) (Nat.le_refl _) ⟨rfl, rfl⟩
set_option maxHeartbeats 4000000 in
set_option maxRecDepth 20000 in
theorem t_X11_told {G : yb_G} {X : List (FieldType × Nat)} {a1 : Int32} {a2 : Int32} {s : yb_S} {out : Int32} (h : f_X11_told a1 a2 s = some out) : Ct G yX11_told cX11_told 4 (Option.some .int) (yb_rm 2) [.ref (yb_ad G 0), .int a1, .int a2] (yb_mk s X) (yb_qi X s out) := by
  refine Ct.of (own := RX11) (ini := false) (vs := [some (.ref (yb_ad G 0)), some (.int a1), some (.int a2), none]) ⟨rfl, by decide +kernel⟩ (fun h => by cases h) (Nat.le_of_ble_eq_true rfl) rfl ?_
  unfold f_X11_told at h
  refine n_aload_n (i := 0) dX11_told_0 rfl rfl ?_
  refine p_getr fl_X11_10 (sh_0 _ _) rfl (rR_0_0 _ _) dX11_told_1 ?_
  refine p_getr fl_X11_100 (sh_1 _ _) rfl (rR_1_2 _ _) dX11_told_4 ?_
  refine n_astore_n (i := 3) (vs' := [some (.ref (yb_ad G 0)), some (.int a1), some (.int a2), some (.ref (yb_ad G 21))]) dX11_told_7 rfl (Nat.le_of_ble_eq_true rfl) rfl rfl ?_
  refine n_aload_n (i := 3) dX11_told_8 rfl rfl ?_
  refine n_iload_n (i := 1) dX11_told_9 rfl rfl ?_
  obtain ⟨q1, hq1, h⟩ := yb_bind h
  refine p_callVi (As := [.int a1]) (t_X2_has hq1) cv_X11_127 (sh_21 _ _) rfl rfl (Nat.le_of_ble_eq_true rfl) dX11_told_10 (yb_rok (Nat.le_of_ble_eq_true rfl) (by decide)) ⟨rfl, rfl⟩ ⟨Nat.le_refl _, Nat.le_refl _⟩ (fun k2 => ?_)
  refine n_if_ne 18 dX11_told_13 (by decide) (fun c3 => ?_) (fun c3 => ?_)
  · have h := yb_ifn c3 h
    refine n_iload_n (i := 2) dX11_told_18 rfl rfl ?_
    by_cases c4 : a2 = (0 : Int32)
    · have h := yb_ifp c4 h
      refine n_tableIn (off := 37) 56 dX11_told_19 (by rw [c4]; decide) (by rw [c4]; decide) (by rw [c4]; decide) (by decide) ?_
      refine n_aload_n (i := 3) dX11_told_56 rfl rfl ?_
      refine p_getr fl_X11_259 (sh_21 _ _) rfl (rR_21_7 _ _) dX11_told_57 ?_
      refine n_iload_n (i := 1) dX11_told_60 rfl rfl ?_
      obtain ⟨v10, hv10, h⟩ := yb_bind h
      refine p_iald hv10 (sh_28 _ _) dX11_told_61 ?_
      cases h
      exact n_iret dX11_told_62 rfl rfl (Nat.le_refl _) (Nat.le_refl _) ⟨rfl, rfl⟩
    · have h := yb_ifn c4 h
      by_cases c5 : a2 = (1 : Int32)
      · have h := yb_ifp c5 h
        refine n_tableIn (off := 44) 63 dX11_told_19 (by rw [c5]; decide) (by rw [c5]; decide) (by rw [c5]; decide) (by decide) ?_
        refine n_aload_n (i := 3) dX11_told_63 rfl rfl ?_
        refine p_getr fl_X11_249 (sh_21 _ _) rfl (rR_21_8 _ _) dX11_told_64 ?_
        refine n_iload_n (i := 1) dX11_told_67 rfl rfl ?_
        obtain ⟨v11, hv11, h⟩ := yb_bind h
        refine p_iald hv11 (sh_29 _ _) dX11_told_68 ?_
        cases h
        exact n_iret dX11_told_69 rfl rfl (Nat.le_refl _) (Nat.le_refl _) ⟨rfl, rfl⟩
      · have h := yb_ifn c5 h
        by_cases c6 : a2 = (2 : Int32)
        · have h := yb_ifp c6 h
          refine n_tableIn (off := 51) 70 dX11_told_19 (by rw [c6]; decide) (by rw [c6]; decide) (by rw [c6]; decide) (by decide) ?_
          refine n_aload_n (i := 3) dX11_told_70 rfl rfl ?_
          refine p_getr fl_X11_284 (sh_21 _ _) rfl (rR_21_10 _ _) dX11_told_71 ?_
          refine n_iload_n (i := 1) dX11_told_74 rfl rfl ?_
          obtain ⟨v12, hv12, h⟩ := yb_bind h
          refine p_iald hv12 (sh_31 _ _) dX11_told_75 ?_
          cases h
          exact n_iret dX11_told_76 rfl rfl (Nat.le_refl _) (Nat.le_refl _) ⟨rfl, rfl⟩
        · have h := yb_ifn c6 h
          by_cases c7 : a2 = (3 : Int32)
          · have h := yb_ifp c7 h
            refine n_tableIn (off := 58) 77 dX11_told_19 (by rw [c7]; decide) (by rw [c7]; decide) (by rw [c7]; decide) (by decide) ?_
            refine n_aload_n (i := 3) dX11_told_77 rfl rfl ?_
            refine p_getr fl_X11_262 (sh_21 _ _) rfl (rR_21_1 _ _) dX11_told_78 ?_
            refine n_iload_n (i := 1) dX11_told_81 rfl rfl ?_
            obtain ⟨v13, hv13, h⟩ := yb_bind h
            refine p_iald hv13 (sh_22 _ _) dX11_told_82 ?_
            cases h
            exact n_iret dX11_told_83 rfl rfl (Nat.le_refl _) (Nat.le_refl _) ⟨rfl, rfl⟩
          · have h := yb_ifn c7 h
            by_cases c8 : a2 = (4 : Int32)
            · have h := yb_ifp c8 h
              refine n_tableIn (off := 65) 84 dX11_told_19 (by rw [c8]; decide) (by rw [c8]; decide) (by rw [c8]; decide) (by decide) ?_
              refine n_aload_n (i := 3) dX11_told_84 rfl rfl ?_
              refine p_getr fl_X11_268 (sh_21 _ _) rfl (rR_21_11 _ _) dX11_told_85 ?_
              refine n_iload_n (i := 1) dX11_told_88 rfl rfl ?_
              obtain ⟨v14, hv14, h⟩ := yb_bind h
              refine p_iald hv14 (sh_32 _ _) dX11_told_89 ?_
              cases h
              exact n_iret dX11_told_90 rfl rfl (Nat.le_refl _) (Nat.le_refl _) ⟨rfl, rfl⟩
            · have h := yb_ifn c8 h
              by_cases c9 : a2 = (5 : Int32)
              · have h := yb_ifp c9 h
                refine n_tableIn (off := 72) 91 dX11_told_19 (by rw [c9]; decide) (by rw [c9]; decide) (by rw [c9]; decide) (by decide) ?_
                refine n_aload_n (i := 3) dX11_told_91 rfl rfl ?_
                refine p_getr fl_X11_116 (sh_21 _ _) rfl (rR_21_12 _ _) dX11_told_92 ?_
                refine n_iload_n (i := 1) dX11_told_95 rfl rfl ?_
                obtain ⟨v15, hv15, h⟩ := yb_bind h
                refine p_iald hv15 (sh_33 _ _) dX11_told_96 ?_
                cases h
                exact n_iret dX11_told_97 rfl rfl (Nat.le_refl _) (Nat.le_refl _) ⟨rfl, rfl⟩
              · have h := yb_ifn c9 h
                refine n_tableOut 98 dX11_told_19 (by have z0 := lv_neT c4 (a := 0) (by decide); have z1 := lv_neT c5 (a := 1) (by decide); have z2 := lv_neT c6 (a := 2) (by decide); have z3 := lv_neT c7 (a := 3) (by decide); have z4 := lv_neT c8 (a := 4) (by decide); have z5 := lv_neT c9 (a := 5) (by decide); omega) (by decide) ?_
                refine n_iconst (-1 : Int32) dX11_told_98 ic_m1 ?_
                cases h
                exact n_iret dX11_told_99 rfl rfl (Nat.le_refl _) (Nat.le_refl _) ⟨rfl, rfl⟩
  · have h := yb_ifp c3 h
    refine n_iconst (-1 : Int32) dX11_told_16 ic_m1 ?_
    cases h
    exact n_iret dX11_told_17 rfl rfl (Nat.le_refl _) (Nat.le_refl _) ⟨rfl, rfl⟩
set_option maxHeartbeats 4000000 in
set_option maxRecDepth 20000 in
theorem t_X10_add {G : yb_G} {X : List (FieldType × Nat)} {a1 : Int32} {a2 : Int32} {a3 : Int32} {a4 : Int32} {s : yb_S} {out : (Int32 × yb_S)} (h : f_X10_add a1 a2 a3 a4 s = some out) : Ct G yX10_add cX10_add 5 (Option.some .int) (yb_rm 1) [.ref (yb_ad G 2), .int a1, .int a2, .int a3, .int a4] (yb_mk s X) (yb_qi X out.2 out.1) := by
  refine Ct.of (own := RX10) (ini := false) (vs := [some (.ref (yb_ad G 2)), some (.int a1), some (.int a2), some (.int a3), some (.int a4)]) ⟨rfl, by decide +kernel⟩ (fun h => by cases h) (Nat.le_of_ble_eq_true rfl) rfl ?_
  unfold f_X10_add at h
  refine n_aload_n (i := 0) dX10_add_0 rfl rfl ?_
  refine p_geti fl_X10_44 (sh_2 _ _) rfl dX10_add_1 ?_
  refine n_bipush (8 : Int32) dX10_add_4 bp_8 ?_
  refine n_icmp_lt 11 dX10_add_6 (by decide) (fun c1 => ?_) (fun c1 => ?_)
  · have h := yb_ifp c1 h
    refine n_aload_n (i := 0) dX10_add_11 rfl rfl ?_
    refine p_getr fl_X10_9 (sh_2 _ _) rfl (rR_2_1 _ _) dX10_add_12 ?_
    refine n_aload_n (i := 0) dX10_add_15 rfl rfl ?_
    refine p_geti fl_X10_44 (sh_2 _ _) rfl dX10_add_16 ?_
    refine n_iload_n (i := 1) dX10_add_19 rfl rfl ?_
    obtain ⟨s2, hs2, h⟩ := yb_bind h
    refine p_iast hs2 (sh_3 _ _) dX10_add_20 ?_
    refine n_aload_n (i := 0) dX10_add_21 rfl rfl ?_
    refine p_getr fl_X10_15 (sh_2 _ _) rfl (rR_2_2 _ _) dX10_add_22 ?_
    refine n_aload_n (i := 0) dX10_add_25 rfl rfl ?_
    refine p_geti fl_X10_44 (sh_2 _ _) rfl dX10_add_26 ?_
    refine n_iload_n (i := 2) dX10_add_29 rfl rfl ?_
    obtain ⟨s3, hs3, h⟩ := yb_bind h
    refine p_iast hs3 (sh_4 _ _) dX10_add_30 ?_
    refine n_aload_n (i := 0) dX10_add_31 rfl rfl ?_
    refine p_getr fl_X10_18 (sh_2 _ _) rfl (rR_2_3 _ _) dX10_add_32 ?_
    refine n_aload_n (i := 0) dX10_add_35 rfl rfl ?_
    refine p_geti fl_X10_44 (sh_2 _ _) rfl dX10_add_36 ?_
    refine n_iload_n (i := 3) dX10_add_39 rfl rfl ?_
    obtain ⟨s4, hs4, h⟩ := yb_bind h
    refine p_iast hs4 (sh_5 _ _) dX10_add_40 ?_
    refine n_aload_n (i := 0) dX10_add_41 rfl rfl ?_
    refine p_getr fl_X10_21 (sh_2 _ _) rfl (rR_2_4 _ _) dX10_add_42 ?_
    refine n_aload_n (i := 0) dX10_add_45 rfl rfl ?_
    refine p_geti fl_X10_44 (sh_2 _ _) rfl dX10_add_46 ?_
    refine n_iload dX10_add_49 rfl ?_
    obtain ⟨s5, hs5, h⟩ := yb_bind h
    refine p_iast hs5 (sh_6 _ _) dX10_add_51 ?_
    refine n_aload_n (i := 0) dX10_add_52 rfl rfl ?_
    refine n_dup dX10_add_53 rfl ?_
    refine p_geti fl_X10_44 (sh_2 _ _) rfl dX10_add_54 ?_
    refine n_iconst (1 : Int32) dX10_add_57 ic_1 ?_
    refine n_iadd dX10_add_58 ?_
    obtain ⟨s6, hs6, h⟩ := yb_bind h
    refine p_puti hs6 fp_X10_44 (sh_2 _ _) rfl rfl rfl dX10_add_59 ?_
    refine n_aload_n (i := 0) dX10_add_62 rfl rfl ?_
    refine p_geti fl_X10_44 (sh_2 _ _) rfl dX10_add_63 ?_
    refine n_iconst (1 : Int32) dX10_add_66 ic_1 ?_
    refine n_isub dX10_add_67 ?_
    cases h
    exact n_iret dX10_add_68 rfl rfl (Nat.le_refl _) (Nat.le_refl _) ⟨rfl, rfl⟩
  · have h := yb_ifn c1 h
    refine n_iconst (-1 : Int32) dX10_add_9 ic_m1 ?_
    cases h
    exact n_iret dX10_add_10 rfl rfl (Nat.le_refl _) (Nat.le_refl _) ⟨rfl, rfl⟩
set_option maxHeartbeats 4000000 in
set_option maxRecDepth 20000 in
theorem t_X11_town {G : yb_G} {X : List (FieldType × Nat)} {a1 : Int32} {a2 : Int32} {a3 : Int32} {s : yb_S} {out : (Int32 × yb_S)} (h : f_X11_town a1 a2 a3 s = some out) : Ct G yX11_town cX11_town 4 (Option.some .int) (yb_rm 2) [.ref (yb_ad G 0), .int a1, .int a2, .int a3] (yb_mk s X) (yb_qi X out.2 out.1) := by
  refine Ct.of (own := RX11) (ini := false) (vs := [some (.ref (yb_ad G 0)), some (.int a1), some (.int a2), some (.int a3)]) ⟨rfl, by decide +kernel⟩ (fun h => by cases h) (Nat.le_of_ble_eq_true rfl) rfl ?_
  unfold f_X11_town at h
  refine n_iload_n (i := 1) dX11_town_0 rfl rfl ?_
  refine n_if_lt 21 dX11_town_1 (by decide) (fun c1 => ?_) (fun c1 => ?_)
  · have h := yb_ifp c1 h
    refine n_iconst (-1 : Int32) dX11_town_21 ic_m1 ?_
    cases h
    exact n_iret dX11_town_22 rfl rfl (Nat.le_refl _) (Nat.le_refl _) ⟨rfl, rfl⟩
  · have h := yb_ifn c1 h
    refine n_iload_n (i := 1) dX11_town_4 rfl rfl ?_
    refine n_sipush (999 : Int32) dX11_town_5 sp_999 ?_
    refine n_icmp_gt 21 dX11_town_8 (by decide) (fun c2 => ?_) (fun c2 => ?_)
    · have h := yb_ifp c2 h
      refine n_iconst (-1 : Int32) dX11_town_21 ic_m1 ?_
      cases h
      exact n_iret dX11_town_22 rfl rfl (Nat.le_refl _) (Nat.le_refl _) ⟨rfl, rfl⟩
    · have h := yb_ifn c2 h
      refine n_iload_n (i := 3) dX11_town_11 rfl rfl ?_
      refine n_if_lt 21 dX11_town_12 (by decide) (fun c3 => ?_) (fun c3 => ?_)
      · have h := yb_ifp c3 h
        refine n_iconst (-1 : Int32) dX11_town_21 ic_m1 ?_
        cases h
        exact n_iret dX11_town_22 rfl rfl (Nat.le_refl _) (Nat.le_refl _) ⟨rfl, rfl⟩
      · have h := yb_ifn c3 h
        refine n_iload_n (i := 3) dX11_town_15 rfl rfl ?_
        refine n_bipush (63 : Int32) dX11_town_16 bp_63 ?_
        refine n_icmp_le 23 dX11_town_18 (by decide) (fun c4 => ?_) (fun c4 => ?_)
        · have h := yb_ifp c4 h
          refine n_iload_n (i := 2) dX11_town_23 rfl rfl ?_
          refine n_if_lt 45 dX11_town_24 (by decide) (fun c5 => ?_) (fun c5 => ?_)
          · have h := yb_ifp c5 h
            refine n_iconst (-1 : Int32) dX11_town_45 ic_m1 ?_
            cases h
            exact n_iret dX11_town_46 rfl rfl (Nat.le_refl _) (Nat.le_refl _) ⟨rfl, rfl⟩
          · have h := yb_ifn c5 h
            refine n_iload_n (i := 2) dX11_town_27 rfl rfl ?_
            refine n_bipush (100 : Int32) dX11_town_28 bp_100 ?_
            refine n_idiv dX11_town_30 (by decide) ?_
            refine n_bipush (15 : Int32) dX11_town_31 bp_15 ?_
            refine n_icmp_gt 45 dX11_town_33 (by decide) (fun c6 => ?_) (fun c6 => ?_)
            · have h := yb_ifp c6 h
              refine n_iconst (-1 : Int32) dX11_town_45 ic_m1 ?_
              cases h
              exact n_iret dX11_town_46 rfl rfl (Nat.le_refl _) (Nat.le_refl _) ⟨rfl, rfl⟩
            · have h := yb_ifn c6 h
              refine n_iload_n (i := 2) dX11_town_36 rfl rfl ?_
              refine n_bipush (100 : Int32) dX11_town_37 bp_100 ?_
              refine p_irem (by decide) dX11_town_39 ?_
              refine n_bipush (40 : Int32) dX11_town_40 bp_40 ?_
              refine n_icmp_le 47 dX11_town_42 (by decide) (fun c7 => ?_) (fun c7 => ?_)
              · have h := yb_ifp c7 h
                refine n_aload_n (i := 0) dX11_town_47 rfl rfl ?_
                refine p_getr fl_X11_10 (sh_0 _ _) rfl (rR_0_0 _ _) dX11_town_48 ?_
                refine p_getr fl_X11_53 (sh_1 _ _) rfl (rR_1_0 _ _) dX11_town_51 ?_
                refine n_iload_n (i := 1) dX11_town_54 rfl rfl ?_
                refine n_iload_n (i := 2) dX11_town_55 rfl rfl ?_
                refine n_bipush (100 : Int32) dX11_town_56 bp_100 ?_
                refine n_idiv dX11_town_58 (by decide) ?_
                refine n_iload_n (i := 2) dX11_town_59 rfl rfl ?_
                refine n_bipush (100 : Int32) dX11_town_60 bp_100 ?_
                refine p_irem (by decide) dX11_town_62 ?_
                refine n_iload_n (i := 3) dX11_town_63 rfl rfl ?_
                obtain ⟨q8, hq8, h⟩ := yb_bind h
                refine p_callVi (As := [.int a1, .int (a2 / (100 : Int32)), .int (yb_rem a2 (100 : Int32)), .int a3]) (t_X10_add hq8) cv_X11_57 (sh_2 _ _) rfl rfl (Nat.le_of_ble_eq_true rfl) dX11_town_64 (yb_rok (Nat.le_of_ble_eq_true rfl) (by decide)) ⟨rfl, rfl⟩ ⟨Nat.le_refl _, Nat.le_refl _⟩ (fun k9 => ?_)
                cases h
                exact n_iret dX11_town_67 rfl rfl (Nat.le_refl _) (Nat.le_refl _) ⟨rfl, rfl⟩
              · have h := yb_ifn c7 h
                refine n_iconst (-1 : Int32) dX11_town_45 ic_m1 ?_
                cases h
                exact n_iret dX11_town_46 rfl rfl (Nat.le_refl _) (Nat.le_refl _) ⟨rfl, rfl⟩
        · have h := yb_ifn c4 h
          refine n_iconst (-1 : Int32) dX11_town_21 ic_m1 ?_
          cases h
          exact n_iret dX11_town_22 rfl rfl (Nat.le_refl _) (Nat.le_refl _) ⟨rfl, rfl⟩
set_option maxHeartbeats 4000000 in
set_option maxRecDepth 20000 in
theorem t_X11_why {G : yb_G} {X : List (FieldType × Nat)} {a1 : Int32} {a2 : Int32} {s : yb_S} {out : Int32} (h : f_X11_why a1 a2 s = some out) : Ct G yX11_why cX11_why 3 (Option.some .int) (yb_rm 4) [.ref (yb_ad G 0), .int a1, .int a2] (yb_mk s X) (yb_qi X s out) := by
  refine Ct.of (own := RX11) (ini := false) (vs := [some (.ref (yb_ad G 0)), some (.int a1), some (.int a2)]) ⟨rfl, by decide +kernel⟩ (fun h => by cases h) (Nat.le_of_ble_eq_true rfl) rfl ?_
  unfold f_X11_why at h
  refine n_iload_n (i := 1) dX11_why_0 rfl rfl ?_
  refine n_if_lt 25 dX11_why_1 (by decide) (fun c1 => ?_) (fun c1 => ?_)
  · have h := yb_ifp c1 h
    refine n_iconst (-1 : Int32) dX11_why_25 ic_m1 ?_
    cases h
    exact n_iret dX11_why_26 rfl rfl (Nat.le_refl _) (Nat.le_refl _) ⟨rfl, rfl⟩
  · have h := yb_ifn c1 h
    refine n_iload_n (i := 1) dX11_why_4 rfl rfl ?_
    refine n_bipush (6 : Int32) dX11_why_5 bp_6 ?_
    refine n_icmp_ge 25 dX11_why_7 (by decide) (fun c2 => ?_) (fun c2 => ?_)
    · have h := yb_ifp c2 h
      refine n_iconst (-1 : Int32) dX11_why_25 ic_m1 ?_
      cases h
      exact n_iret dX11_why_26 rfl rfl (Nat.le_refl _) (Nat.le_refl _) ⟨rfl, rfl⟩
    · have h := yb_ifn c2 h
      refine n_iload_n (i := 2) dX11_why_10 rfl rfl ?_
      refine n_if_lt 25 dX11_why_11 (by decide) (fun c3 => ?_) (fun c3 => ?_)
      · have h := yb_ifp c3 h
        refine n_iconst (-1 : Int32) dX11_why_25 ic_m1 ?_
        cases h
        exact n_iret dX11_why_26 rfl rfl (Nat.le_refl _) (Nat.le_refl _) ⟨rfl, rfl⟩
      · have h := yb_ifn c3 h
        refine n_iload_n (i := 2) dX11_why_14 rfl rfl ?_
        refine n_aload_n (i := 0) dX11_why_15 rfl rfl ?_
        refine p_getr fl_X11_10 (sh_0 _ _) rfl (rR_0_0 _ _) dX11_why_16 ?_
        refine p_geti fl_X11_104 (sh_1 _ _) rfl dX11_why_19 ?_
        refine n_icmp_le 27 dX11_why_22 (by decide) (fun c4 => ?_) (fun c4 => ?_)
        · have h := yb_ifp c4 h
          refine n_aload_n (i := 0) dX11_why_27 rfl rfl ?_
          refine p_getr fl_X11_10 (sh_0 _ _) rfl (rR_0_0 _ _) dX11_why_28 ?_
          refine p_getr fl_X11_197 (sh_1 _ _) rfl (rR_1_4 _ _) dX11_why_31 ?_
          refine n_iload_n (i := 1) dX11_why_34 rfl rfl ?_
          refine n_iload_n (i := 2) dX11_why_35 rfl rfl ?_
          obtain ⟨q5, hq5, h⟩ := yb_bind h
          refine p_callVi (As := [.int a1, .int a2]) (t_X5_inForce hq5) cv_X11_211 (sh_54 _ _) rfl rfl (Nat.le_of_ble_eq_true rfl) dX11_why_36 (yb_rok (Nat.le_of_ble_eq_true rfl) (by decide)) ⟨rfl, rfl⟩ ⟨Nat.le_refl _, Nat.le_refl _⟩ (fun k6 => ?_)
          cases h
          exact n_iret dX11_why_39 rfl rfl (Nat.le_refl _) (Nat.le_refl _) ⟨rfl, rfl⟩
        · have h := yb_ifn c4 h
          refine n_iconst (-1 : Int32) dX11_why_25 ic_m1 ?_
          cases h
          exact n_iret dX11_why_26 rfl rfl (Nat.le_refl _) (Nat.le_refl _) ⟨rfl, rfl⟩
set_option maxHeartbeats 4000000 in
set_option maxRecDepth 20000 in
theorem tj_X11_wish_32 {G : yb_G} {X : List (FieldType × Nat)} {x1 : Int32} {x2 : Int32} {s : yb_S} {out : (Int32 × yb_S)} (h : j_X11_wish_32 x1 x2 s = some out) : Rn G RX11 cX11_wish 3 (Option.some .boolean) false (yb_rm 3) (yb_qi X out.2 out.1) 0 0 32 [some (.ref (yb_ad G 0)), some (.int x1), some (.int x2)] [] (yb_mk s X) := by
  unfold j_X11_wish_32 at h
  refine n_aload_n (i := 0) dX11_wish_32 rfl rfl ?_
  refine p_getr fl_X11_10 (sh_0 _ _) rfl (rR_0_0 _ _) dX11_wish_33 ?_
  refine p_getr fl_X11_100 (sh_1 _ _) rfl (rR_1_2 _ _) dX11_wish_36 ?_
  refine p_getr fl_X11_116 (sh_21 _ _) rfl (rR_21_12 _ _) dX11_wish_39 ?_
  refine n_iload_n (i := 1) dX11_wish_42 rfl rfl ?_
  refine n_iload_n (i := 2) dX11_wish_43 rfl rfl ?_
  obtain ⟨s5, hs5, h⟩ := yb_bind h
  refine p_iast hs5 (sh_33 _ _) dX11_wish_44 ?_
  refine n_iconst (1 : Int32) dX11_wish_45 ic_1 ?_
  cases h
  exact n_iret dX11_wish_46 rfl (by decide) (Nat.le_refl _) (Nat.le_refl _) ⟨rfl, rfl⟩
set_option maxHeartbeats 4000000 in
set_option maxRecDepth 20000 in
theorem t_X11_wish {G : yb_G} {X : List (FieldType × Nat)} {a1 : Int32} {a2 : Int32} {s : yb_S} {out : (Int32 × yb_S)} (h : f_X11_wish a1 a2 s = some out) : Ct G yX11_wish cX11_wish 3 (Option.some .boolean) (yb_rm 3) [.ref (yb_ad G 0), .int a1, .int a2] (yb_mk s X) (yb_qi X out.2 out.1) := by
  refine Ct.of (own := RX11) (ini := false) (vs := [some (.ref (yb_ad G 0)), some (.int a1), some (.int a2)]) ⟨rfl, by decide +kernel⟩ (fun h => by cases h) (Nat.le_of_ble_eq_true rfl) rfl ?_
  unfold f_X11_wish at h
  refine n_aload_n (i := 0) dX11_wish_0 rfl rfl ?_
  refine p_getr fl_X11_10 (sh_0 _ _) rfl (rR_0_0 _ _) dX11_wish_1 ?_
  refine n_iload_n (i := 1) dX11_wish_4 rfl rfl ?_
  obtain ⟨q1, hq1, h⟩ := yb_bind h
  refine p_callVi (As := [.int a1]) (t_X8_isHere hq1) cv_X11_113 (sh_1 _ _) rfl rfl (Nat.le_of_ble_eq_true rfl) dX11_wish_5 (yb_rok (Nat.le_of_ble_eq_true rfl) (by decide)) ⟨rfl, rfl⟩ ⟨Nat.le_refl _, Nat.le_refl _⟩ (fun k2 => ?_)
  refine n_if_eq 30 dX11_wish_8 (by decide) (fun c3 => ?_) (fun c3 => ?_)
  · have h := yb_ifp c3 h
    refine n_iconst (0 : Int32) dX11_wish_30 ic_0 ?_
    cases h
    exact n_iret dX11_wish_31 rfl (by decide) (Nat.le_refl _) (Nat.le_refl _) ⟨rfl, rfl⟩
  · have h := yb_ifn c3 h
    refine n_iload_n (i := 2) dX11_wish_11 rfl rfl ?_
    refine n_iconst (-1 : Int32) dX11_wish_12 ic_m1 ?_
    refine n_icmp_eq 32 dX11_wish_13 (by decide) (fun c4 => ?_) (fun c4 => ?_)
    · have h := yb_ifp c4 h
      exact p_jump (tj_X11_wish_32 h) (And.intro rfl (And.intro rfl (And.intro rfl trivial)))
    · have h := yb_ifn c4 h
      refine n_aload_n (i := 0) dX11_wish_16 rfl rfl ?_
      refine p_getr fl_X11_10 (sh_0 _ _) rfl (rR_0_0 _ _) dX11_wish_17 ?_
      refine p_getr fl_X11_53 (sh_1 _ _) rfl (rR_1_0 _ _) dX11_wish_20 ?_
      refine n_iload_n (i := 2) dX11_wish_23 rfl rfl ?_
      obtain ⟨q6, hq6, h⟩ := yb_bind h
      refine p_callVi (As := [.int a2]) (t_X10_has hq6) cv_X11_63 (sh_2 _ _) rfl rfl (Nat.le_of_ble_eq_true rfl) dX11_wish_24 (yb_rok (Nat.le_of_ble_eq_true rfl) (by decide)) ⟨rfl, rfl⟩ ⟨Nat.le_refl _, Nat.le_refl _⟩ (fun k7 => ?_)
      refine n_if_ne 32 dX11_wish_27 (by decide) (fun c8 => ?_) (fun c8 => ?_)
      · have h := yb_ifn c8 h
        exact p_jump (tj_X11_wish_32 h) (And.intro rfl (And.intro rfl (And.intro rfl trivial)))
      · have h := yb_ifp c8 h
        refine n_iconst (0 : Int32) dX11_wish_30 ic_0 ?_
        cases h
        exact n_iret dX11_wish_31 rfl (by decide) (Nat.le_refl _) (Nat.le_refl _) ⟨rfl, rfl⟩
set_option maxHeartbeats 4000000 in
set_option maxRecDepth 20000 in
theorem t_l_X3_mostAbove_174_13 {G : yb_G} {X : List (FieldType × Nat)} {x5 : Int32} {s : yb_S} {out : Int32} : ∀ (k0 : Nat) (x6 : Int32) (x7 : Int32) (x8 : Int32) (x9 : Int32), l_X3_mostAbove_174_13 x5 s k0 x6 x7 x8 x9 = some out → Rn G RX3 cX3_mostAbove 10 (Option.some .int) false (yb_rm 2) (yb_qi X s out) 0 0 13 [some (.ref (yb_ad G 172)), some (.ref (yb_ad G 174)), none, none, none, some (.int x5), some (.int x6), some (.int x7), some (.int x8), some (.int x9)] [] (yb_mk s X) := by
  intro k0
  induction k0 with
  | zero => intro x6 x7 x8 x9 h; cases h
  | succ k0 ih =>
    intro x6 x7 x8 x9 h
    have h : f_X3_mostAbove_174_13 (fun x6 x7 x8 x9 => l_X3_mostAbove_174_13 x5 s k0 x6 x7 x8 x9) x5 s x6 x7 x8 x9 = some out := h
    have hrc13 := ih
    unfold f_X3_mostAbove_174_13 at h
    refine n_iload dX3_mostAbove_13 rfl ?_
    refine n_iload dX3_mostAbove_15 rfl ?_
    refine n_icmp_gt 63 dX3_mostAbove_17 (by decide) (fun c1 => ?_) (fun c1 => ?_)
    · have h := yb_ifp c1 h
      refine n_iload dX3_mostAbove_63 rfl ?_
      cases h
      exact n_iret dX3_mostAbove_65 rfl rfl (Nat.le_refl _) (Nat.le_refl _) ⟨rfl, rfl⟩
    · have h := yb_ifn c1 h
      refine n_iload dX3_mostAbove_20 rfl ?_
      refine n_aload_n (i := 1) dX3_mostAbove_22 rfl rfl ?_
      refine n_iload dX3_mostAbove_23 rfl ?_
      obtain ⟨v2, hv2, h⟩ := yb_bind h
      refine p_iald hv2 (sh_174 _ _) dX3_mostAbove_25 ?_
      refine n_iadd dX3_mostAbove_26 ?_
      refine n_istore (i := 6) (vs' := [some (.ref (yb_ad G 172)), some (.ref (yb_ad G 174)), none, none, none, some (.int x5), some (.int (x6 + v2)), some (.int x7), some (.int x8), some (.int x9)]) dX3_mostAbove_27 (Nat.le_of_ble_eq_true rfl) rfl rfl ?_
      refine n_iload dX3_mostAbove_29 rfl ?_
      refine n_aload_n (i := 0) dX3_mostAbove_31 rfl rfl ?_
      refine p_getr fl_X3_18 (sh_172 _ _) rfl (rR_172_4 _ _) dX3_mostAbove_32 ?_
      refine n_iload dX3_mostAbove_35 rfl ?_
      obtain ⟨v3, hv3, h⟩ := yb_bind h
      refine p_iald hv3 (sh_175 _ _) dX3_mostAbove_37 ?_
      refine n_iadd dX3_mostAbove_38 ?_
      refine n_istore (i := 7) (vs' := [some (.ref (yb_ad G 172)), some (.ref (yb_ad G 174)), none, none, none, some (.int x5), some (.int (x6 + v2)), some (.int (x7 + v3)), some (.int x8), some (.int x9)]) dX3_mostAbove_39 (Nat.le_of_ble_eq_true rfl) rfl rfl ?_
      refine n_iload dX3_mostAbove_41 rfl ?_
      refine n_iload dX3_mostAbove_43 rfl ?_
      refine n_iconst (0 : Int32) dX3_mostAbove_45 ic_0 ?_
      refine n_iload dX3_mostAbove_46 rfl ?_
      refine n_mmax cs_X3_28 (Nat.le_of_ble_eq_true rfl) dX3_mostAbove_48 ⟨Nat.le_of_ble_eq_true rfl, Nat.le_of_ble_eq_true rfl⟩ ⟨Nat.le_refl _, Nat.le_refl _⟩ ?_
      refine n_isub dX3_mostAbove_51 ?_
      refine n_mmax cs_X3_28 (Nat.le_of_ble_eq_true rfl) dX3_mostAbove_52 ⟨Nat.le_of_ble_eq_true rfl, Nat.le_of_ble_eq_true rfl⟩ ⟨Nat.le_refl _, Nat.le_refl _⟩ ?_
      refine n_istore (i := 8) (vs' := [some (.ref (yb_ad G 172)), some (.ref (yb_ad G 174)), none, none, none, some (.int x5), some (.int (x6 + v2)), some (.int (x7 + v3)), some (.int (yb_max x8 ((x6 + v2) - (yb_max (0 : Int32) (x7 + v3))))), some (.int x9)]) dX3_mostAbove_55 (Nat.le_of_ble_eq_true rfl) rfl rfl ?_
      refine n_iinc (vs' := [some (.ref (yb_ad G 172)), some (.ref (yb_ad G 174)), none, none, none, some (.int x5), some (.int (x6 + v2)), some (.int (x7 + v3)), some (.int (yb_max x8 ((x6 + v2) - (yb_max (0 : Int32) (x7 + v3))))), some (.int (x9 + (1 : Int32)))]) dX3_mostAbove_57 rfl (ii_1 _) (Nat.le_of_ble_eq_true rfl) rfl rfl ?_
      refine n_goto 13 dX3_mostAbove_60 (by decide) ?_
      exact p_jump (hrc13 (x6 + v2) (x7 + v3) (yb_max x8 ((x6 + v2) - (yb_max (0 : Int32) (x7 + v3)))) (x9 + (1 : Int32)) h) (And.intro rfl (And.intro rfl (And.intro rfl (And.intro rfl (And.intro rfl (And.intro rfl (And.intro rfl trivial)))))))
set_option maxHeartbeats 4000000 in
set_option maxRecDepth 20000 in
theorem tl_X3_mostAbove_174_13 {G : yb_G} {X : List (FieldType × Nat)} {x5 : Int32} {s : yb_S} {out : Int32} {x6 : Int32} {x7 : Int32} {x8 : Int32} {x9 : Int32} (h : l_X3_mostAbove_174_13 x5 s yb_N x6 x7 x8 x9 = some out) : Rn G RX3 cX3_mostAbove 10 (Option.some .int) false (yb_rm 2) (yb_qi X s out) 0 0 13 [some (.ref (yb_ad G 172)), some (.ref (yb_ad G 174)), none, none, none, some (.int x5), some (.int x6), some (.int x7), some (.int x8), some (.int x9)] [] (yb_mk s X) := t_l_X3_mostAbove_174_13 _ _ _ _ _ h
set_option maxHeartbeats 4000000 in
set_option maxRecDepth 20000 in
theorem t_X3_mostAbove_174 {G : yb_G} {X : List (FieldType × Nat)} {a2 : Int32} {a3 : Int32} {a4 : Int32} {a5 : Int32} {s : yb_S} {out : Int32} (h : f_X3_mostAbove_174 a2 a3 a4 a5 s = some out) : Ct G yX3_mostAbove cX3_mostAbove 10 (Option.some .int) (yb_rm 2) [.ref (yb_ad G 172), .ref (yb_ad G 174), .int a2, .int a3, .int a4, .int a5] (yb_mk s X) (yb_qi X s out) := by
  refine Ct.of (own := RX3) (ini := false) (vs := [some (.ref (yb_ad G 172)), some (.ref (yb_ad G 174)), some (.int a2), some (.int a3), some (.int a4), some (.int a5), none, none, none, none]) ⟨rfl, by decide +kernel⟩ (fun h => by cases h) (Nat.le_of_ble_eq_true rfl) rfl ?_
  unfold f_X3_mostAbove_174 at h
  refine n_iload_n (i := 2) dX3_mostAbove_0 rfl rfl ?_
  refine n_istore (i := 6) (vs' := [some (.ref (yb_ad G 172)), some (.ref (yb_ad G 174)), some (.int a2), some (.int a3), some (.int a4), some (.int a5), some (.int a2), none, none, none]) dX3_mostAbove_1 (Nat.le_of_ble_eq_true rfl) rfl rfl ?_
  refine n_iload_n (i := 3) dX3_mostAbove_3 rfl rfl ?_
  refine n_istore (i := 7) (vs' := [some (.ref (yb_ad G 172)), some (.ref (yb_ad G 174)), some (.int a2), some (.int a3), some (.int a4), some (.int a5), some (.int a2), some (.int a3), none, none]) dX3_mostAbove_4 (Nat.le_of_ble_eq_true rfl) rfl rfl ?_
  refine n_iconst (0 : Int32) dX3_mostAbove_6 ic_0 ?_
  refine n_istore (i := 8) (vs' := [some (.ref (yb_ad G 172)), some (.ref (yb_ad G 174)), some (.int a2), some (.int a3), some (.int a4), some (.int a5), some (.int a2), some (.int a3), some (.int (0 : Int32)), none]) dX3_mostAbove_7 (Nat.le_of_ble_eq_true rfl) rfl rfl ?_
  refine n_iload dX3_mostAbove_9 rfl ?_
  refine n_istore (i := 9) (vs' := [some (.ref (yb_ad G 172)), some (.ref (yb_ad G 174)), some (.int a2), some (.int a3), some (.int a4), some (.int a5), some (.int a2), some (.int a3), some (.int (0 : Int32)), some (.int a4)]) dX3_mostAbove_11 (Nat.le_of_ble_eq_true rfl) rfl rfl ?_
  exact p_jump (tl_X3_mostAbove_174_13 h) (And.intro rfl (And.intro rfl (And.intro rfl (And.intro rfl (And.intro rfl (And.intro rfl (And.intro rfl trivial)))))))
set_option maxHeartbeats 4000000 in
set_option maxRecDepth 20000 in
theorem t_l_X3_firstAbove_9 {G : yb_G} {X : List (FieldType × Nat)} {x4 : Int32} {s : yb_S} {out : Int32} : ∀ (k0 : Nat) (x5 : Int32) (x6 : Int32) (x7 : Int32), l_X3_firstAbove_9 x4 s k0 x5 x6 x7 = some out → Rn G RX3 cX3_firstAbove 8 (Option.some .int) false (yb_rm 2) (yb_qi X s out) 0 0 9 [some (.ref (yb_ad G 172)), none, none, none, some (.int x4), some (.int x5), some (.int x6), some (.int x7)] [] (yb_mk s X) := by
  intro k0
  induction k0 with
  | zero => intro x5 x6 x7 h; cases h
  | succ k0 ih =>
    intro x5 x6 x7 h
    have h : f_X3_firstAbove_9 (fun x5 x6 x7 => l_X3_firstAbove_9 x4 s k0 x5 x6 x7) x4 s x5 x6 x7 = some out := h
    have hrc9 := ih
    unfold f_X3_firstAbove_9 at h
    refine n_iload dX3_firstAbove_9 rfl ?_
    refine n_iload dX3_firstAbove_11 rfl ?_
    refine n_icmp_gt 61 dX3_firstAbove_13 (by decide) (fun c1 => ?_) (fun c1 => ?_)
    · have h := yb_ifp c1 h
      refine n_iconst (-1 : Int32) dX3_firstAbove_61 ic_m1 ?_
      cases h
      exact n_iret dX3_firstAbove_62 rfl rfl (Nat.le_refl _) (Nat.le_refl _) ⟨rfl, rfl⟩
    · have h := yb_ifn c1 h
      refine n_iload dX3_firstAbove_16 rfl ?_
      refine n_aload_n (i := 0) dX3_firstAbove_18 rfl rfl ?_
      refine p_getr fl_X3_15 (sh_172 _ _) rfl (rR_172_3 _ _) dX3_firstAbove_19 ?_
      refine n_iload dX3_firstAbove_22 rfl ?_
      obtain ⟨v2, hv2, h⟩ := yb_bind h
      refine p_iald hv2 (sh_174 _ _) dX3_firstAbove_24 ?_
      refine n_iadd dX3_firstAbove_25 ?_
      refine n_istore (i := 5) (vs' := [some (.ref (yb_ad G 172)), none, none, none, some (.int x4), some (.int (x5 + v2)), some (.int x6), some (.int x7)]) dX3_firstAbove_26 (Nat.le_of_ble_eq_true rfl) rfl rfl ?_
      refine n_iload dX3_firstAbove_28 rfl ?_
      refine n_aload_n (i := 0) dX3_firstAbove_30 rfl rfl ?_
      refine p_getr fl_X3_18 (sh_172 _ _) rfl (rR_172_4 _ _) dX3_firstAbove_31 ?_
      refine n_iload dX3_firstAbove_34 rfl ?_
      obtain ⟨v3, hv3, h⟩ := yb_bind h
      refine p_iald hv3 (sh_175 _ _) dX3_firstAbove_36 ?_
      refine n_iadd dX3_firstAbove_37 ?_
      refine n_istore (i := 6) (vs' := [some (.ref (yb_ad G 172)), none, none, none, some (.int x4), some (.int (x5 + v2)), some (.int (x6 + v3)), some (.int x7)]) dX3_firstAbove_38 (Nat.le_of_ble_eq_true rfl) rfl rfl ?_
      refine n_iload dX3_firstAbove_40 rfl ?_
      refine n_iconst (0 : Int32) dX3_firstAbove_42 ic_0 ?_
      refine n_iload dX3_firstAbove_43 rfl ?_
      refine n_mmax cs_X3_28 (Nat.le_of_ble_eq_true rfl) dX3_firstAbove_45 ⟨Nat.le_of_ble_eq_true rfl, Nat.le_of_ble_eq_true rfl⟩ ⟨Nat.le_refl _, Nat.le_refl _⟩ ?_
      refine n_isub dX3_firstAbove_48 ?_
      refine n_if_le 55 dX3_firstAbove_49 (by decide) (fun c4 => ?_) (fun c4 => ?_)
      · have h := yb_ifp c4 h
        refine n_iinc (vs' := [some (.ref (yb_ad G 172)), none, none, none, some (.int x4), some (.int (x5 + v2)), some (.int (x6 + v3)), some (.int (x7 + (1 : Int32)))]) dX3_firstAbove_55 rfl (ii_1 _) (Nat.le_of_ble_eq_true rfl) rfl rfl ?_
        refine n_goto 9 dX3_firstAbove_58 (by decide) ?_
        exact p_jump (hrc9 (x5 + v2) (x6 + v3) (x7 + (1 : Int32)) h) (And.intro rfl (And.intro rfl (And.intro rfl (And.intro rfl (And.intro rfl trivial)))))
      · have h := yb_ifn c4 h
        refine n_iload dX3_firstAbove_52 rfl ?_
        cases h
        exact n_iret dX3_firstAbove_54 rfl rfl (Nat.le_refl _) (Nat.le_refl _) ⟨rfl, rfl⟩
set_option maxHeartbeats 4000000 in
set_option maxRecDepth 20000 in
theorem tl_X3_firstAbove_9 {G : yb_G} {X : List (FieldType × Nat)} {x4 : Int32} {s : yb_S} {out : Int32} {x5 : Int32} {x6 : Int32} {x7 : Int32} (h : l_X3_firstAbove_9 x4 s yb_N x5 x6 x7 = some out) : Rn G RX3 cX3_firstAbove 8 (Option.some .int) false (yb_rm 2) (yb_qi X s out) 0 0 9 [some (.ref (yb_ad G 172)), none, none, none, some (.int x4), some (.int x5), some (.int x6), some (.int x7)] [] (yb_mk s X) := t_l_X3_firstAbove_9 _ _ _ _ h
set_option maxHeartbeats 4000000 in
set_option maxRecDepth 20000 in
theorem t_X3_firstAbove {G : yb_G} {X : List (FieldType × Nat)} {a1 : Int32} {a2 : Int32} {a3 : Int32} {a4 : Int32} {s : yb_S} {out : Int32} (h : f_X3_firstAbove a1 a2 a3 a4 s = some out) : Ct G yX3_firstAbove cX3_firstAbove 8 (Option.some .int) (yb_rm 2) [.ref (yb_ad G 172), .int a1, .int a2, .int a3, .int a4] (yb_mk s X) (yb_qi X s out) := by
  refine Ct.of (own := RX3) (ini := false) (vs := [some (.ref (yb_ad G 172)), some (.int a1), some (.int a2), some (.int a3), some (.int a4), none, none, none]) ⟨rfl, by decide +kernel⟩ (fun h => by cases h) (Nat.le_of_ble_eq_true rfl) rfl ?_
  unfold f_X3_firstAbove at h
  refine n_iload_n (i := 1) dX3_firstAbove_0 rfl rfl ?_
  refine n_istore (i := 5) (vs' := [some (.ref (yb_ad G 172)), some (.int a1), some (.int a2), some (.int a3), some (.int a4), some (.int a1), none, none]) dX3_firstAbove_1 (Nat.le_of_ble_eq_true rfl) rfl rfl ?_
  refine n_iload_n (i := 2) dX3_firstAbove_3 rfl rfl ?_
  refine n_istore (i := 6) (vs' := [some (.ref (yb_ad G 172)), some (.int a1), some (.int a2), some (.int a3), some (.int a4), some (.int a1), some (.int a2), none]) dX3_firstAbove_4 (Nat.le_of_ble_eq_true rfl) rfl rfl ?_
  refine n_iload_n (i := 3) dX3_firstAbove_6 rfl rfl ?_
  refine n_istore (i := 7) (vs' := [some (.ref (yb_ad G 172)), some (.int a1), some (.int a2), some (.int a3), some (.int a4), some (.int a1), some (.int a2), some (.int a3)]) dX3_firstAbove_7 (Nat.le_of_ble_eq_true rfl) rfl rfl ?_
  exact p_jump (tl_X3_firstAbove_9 h) (And.intro rfl (And.intro rfl (And.intro rfl (And.intro rfl (And.intro rfl trivial)))))
set_option maxHeartbeats 4000000 in
set_option maxRecDepth 20000 in
theorem t_l_X3_mostAbove_173_13 {G : yb_G} {X : List (FieldType × Nat)} {x5 : Int32} {s : yb_S} {out : Int32} : ∀ (k0 : Nat) (x6 : Int32) (x7 : Int32) (x8 : Int32) (x9 : Int32), l_X3_mostAbove_173_13 x5 s k0 x6 x7 x8 x9 = some out → Rn G RX3 cX3_mostAbove 10 (Option.some .int) false (yb_rm 2) (yb_qi X s out) 0 0 13 [some (.ref (yb_ad G 172)), some (.ref (yb_ad G 173)), none, none, none, some (.int x5), some (.int x6), some (.int x7), some (.int x8), some (.int x9)] [] (yb_mk s X) := by
  intro k0
  induction k0 with
  | zero => intro x6 x7 x8 x9 h; cases h
  | succ k0 ih =>
    intro x6 x7 x8 x9 h
    have h : f_X3_mostAbove_173_13 (fun x6 x7 x8 x9 => l_X3_mostAbove_173_13 x5 s k0 x6 x7 x8 x9) x5 s x6 x7 x8 x9 = some out := h
    have hrc13 := ih
    unfold f_X3_mostAbove_173_13 at h
    refine n_iload dX3_mostAbove_13 rfl ?_
    refine n_iload dX3_mostAbove_15 rfl ?_
    refine n_icmp_gt 63 dX3_mostAbove_17 (by decide) (fun c1 => ?_) (fun c1 => ?_)
    · have h := yb_ifp c1 h
      refine n_iload dX3_mostAbove_63 rfl ?_
      cases h
      exact n_iret dX3_mostAbove_65 rfl rfl (Nat.le_refl _) (Nat.le_refl _) ⟨rfl, rfl⟩
    · have h := yb_ifn c1 h
      refine n_iload dX3_mostAbove_20 rfl ?_
      refine n_aload_n (i := 1) dX3_mostAbove_22 rfl rfl ?_
      refine n_iload dX3_mostAbove_23 rfl ?_
      obtain ⟨v2, hv2, h⟩ := yb_bind h
      refine p_iald hv2 (sh_173 _ _) dX3_mostAbove_25 ?_
      refine n_iadd dX3_mostAbove_26 ?_
      refine n_istore (i := 6) (vs' := [some (.ref (yb_ad G 172)), some (.ref (yb_ad G 173)), none, none, none, some (.int x5), some (.int (x6 + v2)), some (.int x7), some (.int x8), some (.int x9)]) dX3_mostAbove_27 (Nat.le_of_ble_eq_true rfl) rfl rfl ?_
      refine n_iload dX3_mostAbove_29 rfl ?_
      refine n_aload_n (i := 0) dX3_mostAbove_31 rfl rfl ?_
      refine p_getr fl_X3_18 (sh_172 _ _) rfl (rR_172_4 _ _) dX3_mostAbove_32 ?_
      refine n_iload dX3_mostAbove_35 rfl ?_
      obtain ⟨v3, hv3, h⟩ := yb_bind h
      refine p_iald hv3 (sh_175 _ _) dX3_mostAbove_37 ?_
      refine n_iadd dX3_mostAbove_38 ?_
      refine n_istore (i := 7) (vs' := [some (.ref (yb_ad G 172)), some (.ref (yb_ad G 173)), none, none, none, some (.int x5), some (.int (x6 + v2)), some (.int (x7 + v3)), some (.int x8), some (.int x9)]) dX3_mostAbove_39 (Nat.le_of_ble_eq_true rfl) rfl rfl ?_
      refine n_iload dX3_mostAbove_41 rfl ?_
      refine n_iload dX3_mostAbove_43 rfl ?_
      refine n_iconst (0 : Int32) dX3_mostAbove_45 ic_0 ?_
      refine n_iload dX3_mostAbove_46 rfl ?_
      refine n_mmax cs_X3_28 (Nat.le_of_ble_eq_true rfl) dX3_mostAbove_48 ⟨Nat.le_of_ble_eq_true rfl, Nat.le_of_ble_eq_true rfl⟩ ⟨Nat.le_refl _, Nat.le_refl _⟩ ?_
      refine n_isub dX3_mostAbove_51 ?_
      refine n_mmax cs_X3_28 (Nat.le_of_ble_eq_true rfl) dX3_mostAbove_52 ⟨Nat.le_of_ble_eq_true rfl, Nat.le_of_ble_eq_true rfl⟩ ⟨Nat.le_refl _, Nat.le_refl _⟩ ?_
      refine n_istore (i := 8) (vs' := [some (.ref (yb_ad G 172)), some (.ref (yb_ad G 173)), none, none, none, some (.int x5), some (.int (x6 + v2)), some (.int (x7 + v3)), some (.int (yb_max x8 ((x6 + v2) - (yb_max (0 : Int32) (x7 + v3))))), some (.int x9)]) dX3_mostAbove_55 (Nat.le_of_ble_eq_true rfl) rfl rfl ?_
      refine n_iinc (vs' := [some (.ref (yb_ad G 172)), some (.ref (yb_ad G 173)), none, none, none, some (.int x5), some (.int (x6 + v2)), some (.int (x7 + v3)), some (.int (yb_max x8 ((x6 + v2) - (yb_max (0 : Int32) (x7 + v3))))), some (.int (x9 + (1 : Int32)))]) dX3_mostAbove_57 rfl (ii_1 _) (Nat.le_of_ble_eq_true rfl) rfl rfl ?_
      refine n_goto 13 dX3_mostAbove_60 (by decide) ?_
      exact p_jump (hrc13 (x6 + v2) (x7 + v3) (yb_max x8 ((x6 + v2) - (yb_max (0 : Int32) (x7 + v3)))) (x9 + (1 : Int32)) h) (And.intro rfl (And.intro rfl (And.intro rfl (And.intro rfl (And.intro rfl (And.intro rfl (And.intro rfl trivial)))))))
set_option maxHeartbeats 4000000 in
set_option maxRecDepth 20000 in
theorem tl_X3_mostAbove_173_13 {G : yb_G} {X : List (FieldType × Nat)} {x5 : Int32} {s : yb_S} {out : Int32} {x6 : Int32} {x7 : Int32} {x8 : Int32} {x9 : Int32} (h : l_X3_mostAbove_173_13 x5 s yb_N x6 x7 x8 x9 = some out) : Rn G RX3 cX3_mostAbove 10 (Option.some .int) false (yb_rm 2) (yb_qi X s out) 0 0 13 [some (.ref (yb_ad G 172)), some (.ref (yb_ad G 173)), none, none, none, some (.int x5), some (.int x6), some (.int x7), some (.int x8), some (.int x9)] [] (yb_mk s X) := t_l_X3_mostAbove_173_13 _ _ _ _ _ h
set_option maxHeartbeats 4000000 in
set_option maxRecDepth 20000 in
theorem t_X3_mostAbove_173 {G : yb_G} {X : List (FieldType × Nat)} {a2 : Int32} {a3 : Int32} {a4 : Int32} {a5 : Int32} {s : yb_S} {out : Int32} (h : f_X3_mostAbove_173 a2 a3 a4 a5 s = some out) : Ct G yX3_mostAbove cX3_mostAbove 10 (Option.some .int) (yb_rm 2) [.ref (yb_ad G 172), .ref (yb_ad G 173), .int a2, .int a3, .int a4, .int a5] (yb_mk s X) (yb_qi X s out) := by
  refine Ct.of (own := RX3) (ini := false) (vs := [some (.ref (yb_ad G 172)), some (.ref (yb_ad G 173)), some (.int a2), some (.int a3), some (.int a4), some (.int a5), none, none, none, none]) ⟨rfl, by decide +kernel⟩ (fun h => by cases h) (Nat.le_of_ble_eq_true rfl) rfl ?_
  unfold f_X3_mostAbove_173 at h
  refine n_iload_n (i := 2) dX3_mostAbove_0 rfl rfl ?_
  refine n_istore (i := 6) (vs' := [some (.ref (yb_ad G 172)), some (.ref (yb_ad G 173)), some (.int a2), some (.int a3), some (.int a4), some (.int a5), some (.int a2), none, none, none]) dX3_mostAbove_1 (Nat.le_of_ble_eq_true rfl) rfl rfl ?_
  refine n_iload_n (i := 3) dX3_mostAbove_3 rfl rfl ?_
  refine n_istore (i := 7) (vs' := [some (.ref (yb_ad G 172)), some (.ref (yb_ad G 173)), some (.int a2), some (.int a3), some (.int a4), some (.int a5), some (.int a2), some (.int a3), none, none]) dX3_mostAbove_4 (Nat.le_of_ble_eq_true rfl) rfl rfl ?_
  refine n_iconst (0 : Int32) dX3_mostAbove_6 ic_0 ?_
  refine n_istore (i := 8) (vs' := [some (.ref (yb_ad G 172)), some (.ref (yb_ad G 173)), some (.int a2), some (.int a3), some (.int a4), some (.int a5), some (.int a2), some (.int a3), some (.int (0 : Int32)), none]) dX3_mostAbove_7 (Nat.le_of_ble_eq_true rfl) rfl rfl ?_
  refine n_iload dX3_mostAbove_9 rfl ?_
  refine n_istore (i := 9) (vs' := [some (.ref (yb_ad G 172)), some (.ref (yb_ad G 173)), some (.int a2), some (.int a3), some (.int a4), some (.int a5), some (.int a2), some (.int a3), some (.int (0 : Int32)), some (.int a4)]) dX3_mostAbove_11 (Nat.le_of_ble_eq_true rfl) rfl rfl ?_
  exact p_jump (tl_X3_mostAbove_173_13 h) (And.intro rfl (And.intro rfl (And.intro rfl (And.intro rfl (And.intro rfl (And.intro rfl (And.intro rfl trivial)))))))
set_option maxHeartbeats 4000000 in
set_option maxRecDepth 20000 in
theorem t_X11_worst {G : yb_G} {X : List (FieldType × Nat)} {a1 : Int32} {a2 : Int32} {s : yb_S} {out : Int32} (h : f_X11_worst a1 a2 s = some out) : Ct G yX11_worst cX11_worst 4 (Option.some .int) (yb_rm 3) [.ref (yb_ad G 0), .int a1, .int a2] (yb_mk s X) (yb_qi X s out) := by
  refine Ct.of (own := RX11) (ini := false) (vs := [some (.ref (yb_ad G 0)), some (.int a1), some (.int a2), none]) ⟨rfl, by decide +kernel⟩ (fun h => by cases h) (Nat.le_of_ble_eq_true rfl) rfl ?_
  unfold f_X11_worst at h
  refine n_aload_n (i := 0) dX11_worst_0 rfl rfl ?_
  refine n_iload_n (i := 1) dX11_worst_1 rfl rfl ?_
  obtain ⟨q1, hq1, h⟩ := yb_bind h
  refine p_callVi (As := [.int a1]) (t_X11_isAhead hq1) cv_X11_309 (sh_0 _ _) rfl rfl (Nat.le_of_ble_eq_true rfl) dX11_worst_2 (yb_rok (Nat.le_of_ble_eq_true rfl) (by decide)) ⟨rfl, rfl⟩ ⟨Nat.le_refl _, Nat.le_refl _⟩ (fun k2 => ?_)
  refine n_if_ne 10 dX11_worst_5 (by decide) (fun c3 => ?_) (fun c3 => ?_)
  · have h := yb_ifn c3 h
    refine n_aload_n (i := 0) dX11_worst_10 rfl rfl ?_
    refine p_getr fl_X11_10 (sh_0 _ _) rfl (rR_0_0 _ _) dX11_worst_11 ?_
    refine n_iconst (0 : Int32) dX11_worst_14 ic_0 ?_
    obtain ⟨q4, hq4, h⟩ := yb_bind h
    refine p_callVi (As := [.int (0 : Int32)]) (t_X8_headsIn hq4) cv_X11_318 (sh_1 _ _) rfl rfl (Nat.le_of_ble_eq_true rfl) dX11_worst_15 (yb_rok (Nat.le_of_ble_eq_true rfl) (by decide)) ⟨rfl, rfl⟩ ⟨Nat.le_refl _, Nat.le_refl _⟩ (fun k5 => ?_)
    refine n_istore_n (i := 3) (vs' := [some (.ref (yb_ad G 0)), some (.int a1), some (.int a2), some (.int q4)]) dX11_worst_18 rfl (Nat.le_of_ble_eq_true rfl) rfl rfl ?_
    refine n_iload_n (i := 2) dX11_worst_19 rfl rfl ?_
    by_cases c6 : a2 = (0 : Int32)
    · have h := yb_ifp c6 h
      refine n_tableIn (off := 28) 48 dX11_worst_20 (by rw [c6]; decide) (by rw [c6]; decide) (by rw [c6]; decide) (by decide) ?_
      refine n_aload_n (i := 0) dX11_worst_48 rfl rfl ?_
      refine p_getr fl_X11_49 (sh_0 _ _) rfl (rR_0_5 _ _) dX11_worst_49 ?_
      refine n_aload_n (i := 0) dX11_worst_52 rfl rfl ?_
      refine p_getr fl_X11_49 (sh_0 _ _) rfl (rR_0_5 _ _) dX11_worst_53 ?_
      refine p_getr fl_X11_321 (sh_172 _ _) rfl (rR_172_3 _ _) dX11_worst_56 ?_
      refine n_iload_n (i := 3) dX11_worst_59 rfl rfl ?_
      refine n_aload_n (i := 0) dX11_worst_60 rfl rfl ?_
      refine p_getr fl_X11_10 (sh_0 _ _) rfl (rR_0_0 _ _) dX11_worst_61 ?_
      refine p_geti fl_X11_90 (sh_1 _ _) rfl dX11_worst_64 ?_
      refine n_aload_n (i := 0) dX11_worst_67 rfl rfl ?_
      refine p_getr fl_X11_10 (sh_0 _ _) rfl (rR_0_0 _ _) dX11_worst_68 ?_
      refine p_geti fl_X11_104 (sh_1 _ _) rfl dX11_worst_71 ?_
      refine n_iload_n (i := 1) dX11_worst_74 rfl rfl ?_
      obtain ⟨q9, hq9, h⟩ := yb_bind h
      refine p_callVi (As := [.ref (yb_ad G 174), .int q4, .int (s.1 1 6), .int (s.1 1 5), .int a1]) (t_X3_mostAbove_174 hq9) cv_X11_324 (sh_172 _ _) rfl rfl (Nat.le_of_ble_eq_true rfl) dX11_worst_75 (yb_rok (Nat.le_of_ble_eq_true rfl) (by decide)) ⟨rfl, rfl⟩ ⟨Nat.le_refl _, Nat.le_refl _⟩ (fun k10 => ?_)
      cases h
      exact n_iret dX11_worst_78 rfl rfl (Nat.le_refl _) (Nat.le_refl _) ⟨rfl, rfl⟩
    · have h := yb_ifn c6 h
      by_cases c7 : a2 = (1 : Int32)
      · have h := yb_ifp c7 h
        refine n_tableIn (off := 59) 79 dX11_worst_20 (by rw [c7]; decide) (by rw [c7]; decide) (by rw [c7]; decide) (by decide) ?_
        refine n_aload_n (i := 0) dX11_worst_79 rfl rfl ?_
        refine p_getr fl_X11_49 (sh_0 _ _) rfl (rR_0_5 _ _) dX11_worst_80 ?_
        refine n_iload_n (i := 3) dX11_worst_83 rfl rfl ?_
        refine n_aload_n (i := 0) dX11_worst_84 rfl rfl ?_
        refine p_getr fl_X11_10 (sh_0 _ _) rfl (rR_0_0 _ _) dX11_worst_85 ?_
        refine p_geti fl_X11_90 (sh_1 _ _) rfl dX11_worst_88 ?_
        refine n_aload_n (i := 0) dX11_worst_91 rfl rfl ?_
        refine p_getr fl_X11_10 (sh_0 _ _) rfl (rR_0_0 _ _) dX11_worst_92 ?_
        refine p_geti fl_X11_104 (sh_1 _ _) rfl dX11_worst_95 ?_
        refine n_iload_n (i := 1) dX11_worst_98 rfl rfl ?_
        obtain ⟨q11, hq11, h⟩ := yb_bind h
        refine p_callVi (As := [.int q4, .int (s.1 1 6), .int (s.1 1 5), .int a1]) (t_X3_firstAbove hq11) cv_X11_328 (sh_172 _ _) rfl rfl (Nat.le_of_ble_eq_true rfl) dX11_worst_99 (yb_rok (Nat.le_of_ble_eq_true rfl) (by decide)) ⟨rfl, rfl⟩ ⟨Nat.le_refl _, Nat.le_refl _⟩ (fun k12 => ?_)
        cases h
        exact n_iret dX11_worst_102 rfl rfl (Nat.le_refl _) (Nat.le_refl _) ⟨rfl, rfl⟩
      · have h := yb_ifn c7 h
        by_cases c8 : a2 = (2 : Int32)
        · have h := yb_ifp c8 h
          refine n_tableIn (off := 83) 103 dX11_worst_20 (by rw [c8]; decide) (by rw [c8]; decide) (by rw [c8]; decide) (by decide) ?_
          refine n_aload_n (i := 0) dX11_worst_103 rfl rfl ?_
          refine p_getr fl_X11_49 (sh_0 _ _) rfl (rR_0_5 _ _) dX11_worst_104 ?_
          refine n_aload_n (i := 0) dX11_worst_107 rfl rfl ?_
          refine p_getr fl_X11_49 (sh_0 _ _) rfl (rR_0_5 _ _) dX11_worst_108 ?_
          refine p_getr fl_X11_331 (sh_172 _ _) rfl (rR_172_2 _ _) dX11_worst_111 ?_
          refine n_iload_n (i := 3) dX11_worst_114 rfl rfl ?_
          refine n_aload_n (i := 0) dX11_worst_115 rfl rfl ?_
          refine p_getr fl_X11_10 (sh_0 _ _) rfl (rR_0_0 _ _) dX11_worst_116 ?_
          refine p_geti fl_X11_90 (sh_1 _ _) rfl dX11_worst_119 ?_
          refine n_aload_n (i := 0) dX11_worst_122 rfl rfl ?_
          refine p_getr fl_X11_10 (sh_0 _ _) rfl (rR_0_0 _ _) dX11_worst_123 ?_
          refine p_geti fl_X11_104 (sh_1 _ _) rfl dX11_worst_126 ?_
          refine n_iload_n (i := 1) dX11_worst_129 rfl rfl ?_
          obtain ⟨q13, hq13, h⟩ := yb_bind h
          refine p_callVi (As := [.ref (yb_ad G 173), .int q4, .int (s.1 1 6), .int (s.1 1 5), .int a1]) (t_X3_mostAbove_173 hq13) cv_X11_324 (sh_172 _ _) rfl rfl (Nat.le_of_ble_eq_true rfl) dX11_worst_130 (yb_rok (Nat.le_of_ble_eq_true rfl) (by decide)) ⟨rfl, rfl⟩ ⟨Nat.le_refl _, Nat.le_refl _⟩ (fun k14 => ?_)
          cases h
          exact n_iret dX11_worst_133 rfl rfl (Nat.le_refl _) (Nat.le_refl _) ⟨rfl, rfl⟩
        · have h := yb_ifn c8 h
          refine n_tableOut 134 dX11_worst_20 (by have z0 := lv_neT c6 (a := 0) (by decide); have z1 := lv_neT c7 (a := 1) (by decide); have z2 := lv_neT c8 (a := 2) (by decide); omega) (by decide) ?_
          refine n_iconst (-1 : Int32) dX11_worst_134 ic_m1 ?_
          cases h
          exact n_iret dX11_worst_135 rfl rfl (Nat.le_refl _) (Nat.le_refl _) ⟨rfl, rfl⟩
  · have h := yb_ifp c3 h
    refine n_iconst (-1 : Int32) dX11_worst_8 ic_m1 ?_
    cases h
    exact n_iret dX11_worst_9 rfl rfl (Nat.le_refl _) (Nat.le_refl _) ⟨rfl, rfl⟩
set_option maxHeartbeats 4000000 in
set_option maxRecDepth 20000 in
theorem t_X12_in {G : yb_G} {X : List (FieldType × Nat)} {a0 : Int64} {a2 : Int64} {a4 : Int64} {s : yb_S} {out : Int32} (h : f_X12_in a0 a2 a4 s = some out) : Ct G yX12_in cX12_in 6 (Option.some .boolean) (yb_rm 1) [.long a0, .long a2, .long a4] (yb_mk s X) (yb_qi X s out) := by
  refine Ct.of (own := RX12) (ini := false) (vs := [some (.long a0), none, some (.long a2), none, some (.long a4), none]) ⟨rfl, by decide +kernel⟩ (fun h => by cases h) (Nat.le_of_ble_eq_true rfl) rfl ?_
  unfold f_X12_in at h
  refine n_lload_n (i := 0) dX12_in_0 rfl rfl ?_
  refine n_lload_n (i := 2) dX12_in_1 rfl rfl ?_
  refine n_lcmp dX12_in_2 ?_
  refine n_if_lt 17 dX12_in_3 (by decide) (fun c1 => ?_) (fun c1 => ?_)
  · have h := yb_ifp c1 h
    refine n_iconst (0 : Int32) dX12_in_17 ic_0 ?_
    cases h
    exact n_iret dX12_in_18 rfl (by decide) (Nat.le_refl _) (Nat.le_refl _) ⟨rfl, rfl⟩
  · have h := yb_ifn c1 h
    refine n_lload_n (i := 0) dX12_in_6 rfl rfl ?_
    refine n_lload dX12_in_7 rfl ?_
    refine n_lcmp dX12_in_9 ?_
    refine n_if_gt 17 dX12_in_10 (by decide) (fun c2 => ?_) (fun c2 => ?_)
    · have h := yb_ifp c2 h
      refine n_iconst (0 : Int32) dX12_in_17 ic_0 ?_
      cases h
      exact n_iret dX12_in_18 rfl (by decide) (Nat.le_refl _) (Nat.le_refl _) ⟨rfl, rfl⟩
    · have h := yb_ifn c2 h
      refine n_iconst (1 : Int32) dX12_in_13 ic_1 ?_
      refine n_goto 18 dX12_in_14 (by decide) ?_
      cases h
      exact n_iret dX12_in_18 rfl (by decide) (Nat.le_refl _) (Nat.le_refl _) ⟨rfl, rfl⟩
set_option maxHeartbeats 4000000 in
set_option maxRecDepth 20000 in
theorem t_X12_isRecord {G : yb_G} {X : List (FieldType × Nat)} {a1 : Int32} {s : yb_S} {out : Int32} (h : f_X12_isRecord a1 s = some out) : Ct G yX12_isRecord cX12_isRecord 2 (Option.some .boolean) (yb_rm 2) [.ref (yb_ad G 176), .int a1] (yb_mk s X) (yb_qi X s out) := by
  refine Ct.of (own := RX12) (ini := false) (vs := [some (.ref (yb_ad G 176)), some (.int a1)]) ⟨rfl, by decide +kernel⟩ (fun h => by cases h) (Nat.le_of_ble_eq_true rfl) rfl ?_
  unfold f_X12_isRecord at h
  refine n_iload_n (i := 1) dX12_isRecord_0 rfl rfl ?_
  refine n_i2l dX12_isRecord_1 ?_
  refine n_lconst (0 : Int64) dX12_isRecord_2 rfl ?_
  refine n_aload_n (i := 0) dX12_isRecord_3 rfl rfl ?_
  refine p_geti fl_X12_290 (sh_176 _ _) rfl dX12_isRecord_4 ?_
  refine n_iconst (1 : Int32) dX12_isRecord_7 ic_1 ?_
  refine n_isub dX12_isRecord_8 ?_
  refine n_i2l dX12_isRecord_9 ?_
  obtain ⟨q1, hq1, h⟩ := yb_bind h
  refine p_callSi (As := [.long (a1.toInt64), .long (0 : Int64), .long (((s.1 176 36) - (1 : Int32)).toInt64)]) (t_X12_in hq1) cs_X12_247 rfl rfl (Nat.le_of_ble_eq_true rfl) dX12_isRecord_10 (yb_rok (Nat.le_of_ble_eq_true rfl) (by decide)) ⟨rfl, rfl⟩ ⟨Nat.le_refl _, Nat.le_refl _⟩ (fun k2 => ?_)
  cases h
  exact n_iret dX12_isRecord_13 rfl (yb_okv_b k2) (Nat.le_refl _) (Nat.le_refl _) ⟨rfl, rfl⟩
set_option maxHeartbeats 4000000 in
set_option maxRecDepth 20000 in
theorem t_X12_areBarred {G : yb_G} {X : List (FieldType × Nat)} {a1 : Int32} {a2 : Int32} {s : yb_S} {out : Int32} (h : f_X12_areBarred a1 a2 s = some out) : Ct G yX12_areBarred cX12_areBarred 3 (Option.some .boolean) (yb_rm 1) [.ref (yb_ad G 176), .int a1, .int a2] (yb_mk s X) (yb_qi X s out) := by
  refine Ct.of (own := RX12) (ini := false) (vs := [some (.ref (yb_ad G 176)), some (.int a1), some (.int a2)]) ⟨rfl, by decide +kernel⟩ (fun h => by cases h) (Nat.le_of_ble_eq_true rfl) rfl ?_
  unfold f_X12_areBarred at h
  refine n_aload_n (i := 0) dX12_areBarred_0 rfl rfl ?_
  refine p_getr fl_X12_95 (sh_176 _ _) rfl (rR_176_32 _ _) dX12_areBarred_1 ?_
  refine n_iload_n (i := 1) dX12_areBarred_4 rfl rfl ?_
  obtain ⟨v1, hv1, h⟩ := yb_bind h
  refine p_iald hv1 (sh_210 _ _) dX12_areBarred_5 ?_
  refine n_aload_n (i := 0) dX12_areBarred_6 rfl rfl ?_
  refine p_getr fl_X12_98 (sh_176 _ _) rfl (rR_176_33 _ _) dX12_areBarred_7 ?_
  refine n_iload_n (i := 2) dX12_areBarred_10 rfl rfl ?_
  obtain ⟨v2, hv2, h⟩ := yb_bind h
  refine p_iald hv2 (sh_211 _ _) dX12_areBarred_11 ?_
  refine n_icmp_gt 34 dX12_areBarred_12 (by decide) (fun c3 => ?_) (fun c3 => ?_)
  · have h := yb_ifp c3 h
    refine n_iconst (0 : Int32) dX12_areBarred_34 ic_0 ?_
    cases h
    exact n_iret dX12_areBarred_35 rfl (by decide) (Nat.le_refl _) (Nat.le_refl _) ⟨rfl, rfl⟩
  · have h := yb_ifn c3 h
    refine n_aload_n (i := 0) dX12_areBarred_15 rfl rfl ?_
    refine p_getr fl_X12_95 (sh_176 _ _) rfl (rR_176_32 _ _) dX12_areBarred_16 ?_
    refine n_iload_n (i := 2) dX12_areBarred_19 rfl rfl ?_
    obtain ⟨v4, hv4, h⟩ := yb_bind h
    refine p_iald hv4 (sh_210 _ _) dX12_areBarred_20 ?_
    refine n_aload_n (i := 0) dX12_areBarred_21 rfl rfl ?_
    refine p_getr fl_X12_98 (sh_176 _ _) rfl (rR_176_33 _ _) dX12_areBarred_22 ?_
    refine n_iload_n (i := 1) dX12_areBarred_25 rfl rfl ?_
    obtain ⟨v5, hv5, h⟩ := yb_bind h
    refine p_iald hv5 (sh_211 _ _) dX12_areBarred_26 ?_
    refine n_icmp_gt 34 dX12_areBarred_27 (by decide) (fun c6 => ?_) (fun c6 => ?_)
    · have h := yb_ifp c6 h
      refine n_iconst (0 : Int32) dX12_areBarred_34 ic_0 ?_
      cases h
      exact n_iret dX12_areBarred_35 rfl (by decide) (Nat.le_refl _) (Nat.le_refl _) ⟨rfl, rfl⟩
    · have h := yb_ifn c6 h
      refine n_iconst (1 : Int32) dX12_areBarred_30 ic_1 ?_
      refine n_goto 35 dX12_areBarred_31 (by decide) ?_
      cases h
      exact n_iret dX12_areBarred_35 rfl (by decide) (Nat.le_refl _) (Nat.le_refl _) ⟨rfl, rfl⟩
set_option maxHeartbeats 4000000 in
set_option maxRecDepth 20000 in
theorem t_X12_size {G : yb_G} {X : List (FieldType × Nat)} {a0 : Int32} {s : yb_S} {out : Int32} (h : f_X12_size a0 s = some out) : Ct G yX12_size cX12_size 1 (Option.some .int) (yb_rm 1) [.int a0] (yb_mk s X) (yb_qi X s out) := by
  refine Ct.of (own := RX12) (ini := false) (vs := [some (.int a0)]) ⟨rfl, by decide +kernel⟩ (fun h => by cases h) (Nat.le_of_ble_eq_true rfl) rfl ?_
  unfold f_X12_size at h
  refine n_iload_n (i := 0) dX12_size_0 rfl rfl ?_
  refine n_if_ge 9 dX12_size_1 (by decide) (fun c1 => ?_) (fun c1 => ?_)
  · have h := yb_ifp c1 h
    refine n_iload_n (i := 0) dX12_size_9 rfl rfl ?_
    cases h
    exact n_iret dX12_size_10 rfl rfl (Nat.le_refl _) (Nat.le_refl _) ⟨rfl, rfl⟩
  · have h := yb_ifn c1 h
    refine n_iload_n (i := 0) dX12_size_4 rfl rfl ?_
    refine n_ineg dX12_size_5 ?_
    refine n_goto 10 dX12_size_6 (by decide) ?_
    cases h
    exact n_iret dX12_size_10 rfl rfl (Nat.le_refl _) (Nat.le_refl _) ⟨rfl, rfl⟩
set_option maxHeartbeats 4000000 in
set_option maxRecDepth 20000 in
theorem tj_X12_points_39 {G : yb_G} {X : List (FieldType × Nat)} {rc12 : (Int32 → Int32 → Int32 → Int32 → Option Int32)} {x1 : Int32} {x3 : Int32} {x5 : Int32} {x6 : Int32} {x7 : Int32} {y0 : Int32} {y1 : Int32} {s : yb_S} {out : Int32} (hrc12 : ∀ (x4' : Int32) (x5' : Int32) (x6' : Int32) (x7' : Int32), rc12 x4' x5' x6' x7' = some out → Rn G RX12 cX12_points 8 (Option.some .int) false (yb_rm 2) (yb_qi X s out) 0 0 12 [none, some (.int x1), none, some (.int x3), some (.int x4'), some (.int x5'), some (.int x6'), some (.int x7')] [] (yb_mk s X)) (h : j_X12_points_39 rc12 x1 x3 x5 x6 x7 y0 y1 s = some out) : Rn G RX12 cX12_points 8 (Option.some .int) false (yb_rm 2) (yb_qi X s out) 0 0 39 [none, some (.int x1), none, some (.int x3), none, some (.int x5), some (.int x6), some (.int x7)] [.int y0, .int y1] (yb_mk s X) := by
  unfold j_X12_points_39 at h
  refine n_iadd dX12_points_39 ?_
  refine n_istore (i := 4) (vs' := [none, some (.int x1), none, some (.int x3), some (.int (y1 + y0)), some (.int x5), some (.int x6), some (.int x7)]) dX12_points_40 (Nat.le_of_ble_eq_true rfl) rfl rfl ?_
  refine n_iload dX12_points_42 rfl ?_
  refine n_bipush (10 : Int32) dX12_points_44 bp_10 ?_
  refine n_idiv dX12_points_46 (by decide) ?_
  refine n_istore (i := 5) (vs' := [none, some (.int x1), none, some (.int x3), some (.int (y1 + y0)), some (.int (x5 / (10 : Int32))), some (.int x6), some (.int x7)]) dX12_points_47 (Nat.le_of_ble_eq_true rfl) rfl rfl ?_
  refine n_iload dX12_points_49 rfl ?_
  refine n_bipush (10 : Int32) dX12_points_51 bp_10 ?_
  refine n_idiv dX12_points_53 (by decide) ?_
  refine n_istore (i := 6) (vs' := [none, some (.int x1), none, some (.int x3), some (.int (y1 + y0)), some (.int (x5 / (10 : Int32))), some (.int (x6 / (10 : Int32))), some (.int x7)]) dX12_points_54 (Nat.le_of_ble_eq_true rfl) rfl rfl ?_
  refine n_iinc (vs' := [none, some (.int x1), none, some (.int x3), some (.int (y1 + y0)), some (.int (x5 / (10 : Int32))), some (.int (x6 / (10 : Int32))), some (.int (x7 + (1 : Int32)))]) dX12_points_56 rfl (ii_1 _) (Nat.le_of_ble_eq_true rfl) rfl rfl ?_
  refine n_goto 12 dX12_points_59 (by decide) ?_
  exact p_jump (hrc12 (y1 + y0) (x5 / (10 : Int32)) (x6 / (10 : Int32)) (x7 + (1 : Int32)) h) (And.intro rfl (And.intro rfl (And.intro rfl (And.intro rfl (And.intro rfl (And.intro rfl trivial))))))
set_option maxHeartbeats 4000000 in
set_option maxRecDepth 20000 in
theorem t_l_X12_points_12 {G : yb_G} {X : List (FieldType × Nat)} {x1 : Int32} {x3 : Int32} {s : yb_S} {out : Int32} : ∀ (k0 : Nat) (x4 : Int32) (x5 : Int32) (x6 : Int32) (x7 : Int32), l_X12_points_12 x1 x3 s k0 x4 x5 x6 x7 = some out → Rn G RX12 cX12_points 8 (Option.some .int) false (yb_rm 2) (yb_qi X s out) 0 0 12 [none, some (.int x1), none, some (.int x3), some (.int x4), some (.int x5), some (.int x6), some (.int x7)] [] (yb_mk s X) := by
  intro k0
  induction k0 with
  | zero => intro x4 x5 x6 x7 h; cases h
  | succ k0 ih =>
    intro x4 x5 x6 x7 h
    have h : f_X12_points_12 (fun x4 x5 x6 x7 => l_X12_points_12 x1 x3 s k0 x4 x5 x6 x7) x1 x3 s x4 x5 x6 x7 = some out := h
    have hrc12 := ih
    unfold f_X12_points_12 at h
    refine n_iload dX12_points_12 rfl ?_
    refine n_bipush (6 : Int32) dX12_points_14 bp_6 ?_
    refine n_icmp_ge 62 dX12_points_16 (by decide) (fun c1 => ?_) (fun c1 => ?_)
    · have h := yb_ifp c1 h
      refine n_iload dX12_points_62 rfl ?_
      refine n_iload_n (i := 1) dX12_points_64 rfl rfl ?_
      refine n_iload_n (i := 3) dX12_points_65 rfl rfl ?_
      refine n_isub dX12_points_66 ?_
      obtain ⟨q2, hq2, h⟩ := yb_bind h
      refine p_callSi (As := [.int (x1 - x3)]) (t_X12_size hq2) cs_X12_299 rfl rfl (Nat.le_of_ble_eq_true rfl) dX12_points_67 (yb_rok (Nat.le_of_ble_eq_true rfl) (by decide)) ⟨rfl, rfl⟩ ⟨Nat.le_refl _, Nat.le_refl _⟩ (fun k3 => ?_)
      refine n_isub dX12_points_70 ?_
      cases h
      exact n_iret dX12_points_71 rfl rfl (Nat.le_refl _) (Nat.le_refl _) ⟨rfl, rfl⟩
    · have h := yb_ifn c1 h
      refine n_iload dX12_points_19 rfl ?_
      refine n_iload dX12_points_21 rfl ?_
      refine n_bipush (10 : Int32) dX12_points_23 bp_10 ?_
      refine p_irem (by decide) dX12_points_25 ?_
      refine n_iload dX12_points_26 rfl ?_
      refine n_bipush (10 : Int32) dX12_points_28 bp_10 ?_
      refine p_irem (by decide) dX12_points_30 ?_
      refine n_icmp_ne 38 dX12_points_31 (by decide) (fun c4 => ?_) (fun c4 => ?_)
      · have h := yb_ifn c4 h
        refine n_iconst (0 : Int32) dX12_points_38 ic_0 ?_
        exact p_jump (tj_X12_points_39 hrc12 h) (And.intro rfl (And.intro rfl (And.intro rfl (And.intro rfl (And.intro rfl trivial)))))
      · have h := yb_ifp c4 h
        refine n_iconst (1 : Int32) dX12_points_34 ic_1 ?_
        refine n_goto 39 dX12_points_35 (by decide) ?_
        exact p_jump (tj_X12_points_39 hrc12 h) (And.intro rfl (And.intro rfl (And.intro rfl (And.intro rfl (And.intro rfl trivial)))))
set_option maxHeartbeats 4000000 in
set_option maxRecDepth 20000 in
theorem tl_X12_points_12 {G : yb_G} {X : List (FieldType × Nat)} {x1 : Int32} {x3 : Int32} {s : yb_S} {out : Int32} {x4 : Int32} {x5 : Int32} {x6 : Int32} {x7 : Int32} (h : l_X12_points_12 x1 x3 s yb_N x4 x5 x6 x7 = some out) : Rn G RX12 cX12_points 8 (Option.some .int) false (yb_rm 2) (yb_qi X s out) 0 0 12 [none, some (.int x1), none, some (.int x3), some (.int x4), some (.int x5), some (.int x6), some (.int x7)] [] (yb_mk s X) := t_l_X12_points_12 _ _ _ _ _ h
set_option maxHeartbeats 4000000 in
set_option maxRecDepth 20000 in
theorem t_X12_points {G : yb_G} {X : List (FieldType × Nat)} {a0 : Int32} {a1 : Int32} {a2 : Int32} {a3 : Int32} {s : yb_S} {out : Int32} (h : f_X12_points a0 a1 a2 a3 s = some out) : Ct G yX12_points cX12_points 8 (Option.some .int) (yb_rm 2) [.int a0, .int a1, .int a2, .int a3] (yb_mk s X) (yb_qi X s out) := by
  refine Ct.of (own := RX12) (ini := false) (vs := [some (.int a0), some (.int a1), some (.int a2), some (.int a3), none, none, none, none]) ⟨rfl, by decide +kernel⟩ (fun h => by cases h) (Nat.le_of_ble_eq_true rfl) rfl ?_
  unfold f_X12_points at h
  refine n_iconst (0 : Int32) dX12_points_0 ic_0 ?_
  refine n_istore (i := 4) (vs' := [some (.int a0), some (.int a1), some (.int a2), some (.int a3), some (.int (0 : Int32)), none, none, none]) dX12_points_1 (Nat.le_of_ble_eq_true rfl) rfl rfl ?_
  refine n_iload_n (i := 0) dX12_points_3 rfl rfl ?_
  refine n_istore (i := 5) (vs' := [some (.int a0), some (.int a1), some (.int a2), some (.int a3), some (.int (0 : Int32)), some (.int a0), none, none]) dX12_points_4 (Nat.le_of_ble_eq_true rfl) rfl rfl ?_
  refine n_iload_n (i := 2) dX12_points_6 rfl rfl ?_
  refine n_istore (i := 6) (vs' := [some (.int a0), some (.int a1), some (.int a2), some (.int a3), some (.int (0 : Int32)), some (.int a0), some (.int a2), none]) dX12_points_7 (Nat.le_of_ble_eq_true rfl) rfl rfl ?_
  refine n_iconst (0 : Int32) dX12_points_9 ic_0 ?_
  refine n_istore (i := 7) (vs' := [some (.int a0), some (.int a1), some (.int a2), some (.int a3), some (.int (0 : Int32)), some (.int a0), some (.int a2), some (.int (0 : Int32))]) dX12_points_10 (Nat.le_of_ble_eq_true rfl) rfl rfl ?_
  exact p_jump (tl_X12_points_12 h) (And.intro rfl (And.intro rfl (And.intro rfl (And.intro rfl (And.intro rfl (And.intro rfl trivial))))))
set_option maxHeartbeats 4000000 in
set_option maxRecDepth 20000 in
theorem t_X12_pointsOf {G : yb_G} {X : List (FieldType × Nat)} {a1 : Int32} {a2 : Int32} {s : yb_S} {out : Int32} (h : f_X12_pointsOf a1 a2 s = some out) : Ct G yX12_pointsOf cX12_pointsOf 3 (Option.some .int) (yb_rm 3) [.ref (yb_ad G 176), .int a1, .int a2] (yb_mk s X) (yb_qi X s out) := by
  refine Ct.of (own := RX12) (ini := false) (vs := [some (.ref (yb_ad G 176)), some (.int a1), some (.int a2)]) ⟨rfl, by decide +kernel⟩ (fun h => by cases h) (Nat.le_of_ble_eq_true rfl) rfl ?_
  unfold f_X12_pointsOf at h
  refine n_aload_n (i := 0) dX12_pointsOf_0 rfl rfl ?_
  refine p_getr fl_X12_89 (sh_176 _ _) rfl (rR_176_30 _ _) dX12_pointsOf_1 ?_
  refine n_iload_n (i := 1) dX12_pointsOf_4 rfl rfl ?_
  obtain ⟨v1, hv1, h⟩ := yb_bind h
  refine p_iald hv1 (sh_208 _ _) dX12_pointsOf_5 ?_
  refine n_aload_n (i := 0) dX12_pointsOf_6 rfl rfl ?_
  refine p_getr fl_X12_92 (sh_176 _ _) rfl (rR_176_31 _ _) dX12_pointsOf_7 ?_
  refine n_iload_n (i := 1) dX12_pointsOf_10 rfl rfl ?_
  obtain ⟨v2, hv2, h⟩ := yb_bind h
  refine p_iald hv2 (sh_209 _ _) dX12_pointsOf_11 ?_
  refine n_aload_n (i := 0) dX12_pointsOf_12 rfl rfl ?_
  refine p_getr fl_X12_89 (sh_176 _ _) rfl (rR_176_30 _ _) dX12_pointsOf_13 ?_
  refine n_iload_n (i := 2) dX12_pointsOf_16 rfl rfl ?_
  obtain ⟨v3, hv3, h⟩ := yb_bind h
  refine p_iald hv3 (sh_208 _ _) dX12_pointsOf_17 ?_
  refine n_aload_n (i := 0) dX12_pointsOf_18 rfl rfl ?_
  refine p_getr fl_X12_92 (sh_176 _ _) rfl (rR_176_31 _ _) dX12_pointsOf_19 ?_
  refine n_iload_n (i := 2) dX12_pointsOf_22 rfl rfl ?_
  obtain ⟨v4, hv4, h⟩ := yb_bind h
  refine p_iald hv4 (sh_209 _ _) dX12_pointsOf_23 ?_
  obtain ⟨q5, hq5, h⟩ := yb_bind h
  refine p_callSi (As := [.int v1, .int v2, .int v3, .int v4]) (t_X12_points hq5) cs_X12_303 rfl rfl (Nat.le_of_ble_eq_true rfl) dX12_pointsOf_24 (yb_rok (Nat.le_of_ble_eq_true rfl) (by decide)) ⟨rfl, rfl⟩ ⟨Nat.le_refl _, Nat.le_refl _⟩ (fun k6 => ?_)
  cases h
  exact n_iret dX12_pointsOf_27 rfl rfl (Nat.le_refl _) (Nat.le_refl _) ⟨rfl, rfl⟩
set_option maxHeartbeats 4000000 in
set_option maxRecDepth 20000 in
theorem tj_X12_alike_40 {G : yb_G} {X : List (FieldType × Nat)} {s : yb_S} {out : Int32} (h : j_X12_alike_40 s = some out) : Rn G RX12 cX12_alike 3 (Option.some .int) false (yb_rm 4) (yb_qi X s out) 0 0 40 [none, none, none] [] (yb_mk s X) := by
  unfold j_X12_alike_40 at h
  refine n_ldcw (-2147483648 : Int32) k_X12_314 dX12_alike_40 ?_
  cases h
  exact n_iret dX12_alike_43 rfl rfl (Nat.le_refl _) (Nat.le_refl _) ⟨rfl, rfl⟩
set_option maxHeartbeats 4000000 in
set_option maxRecDepth 20000 in
theorem t_X12_alike {G : yb_G} {X : List (FieldType × Nat)} {a1 : Int32} {a2 : Int32} {s : yb_S} {out : Int32} (h : f_X12_alike a1 a2 s = some out) : Ct G yX12_alike cX12_alike 3 (Option.some .int) (yb_rm 4) [.ref (yb_ad G 176), .int a1, .int a2] (yb_mk s X) (yb_qi X s out) := by
  refine Ct.of (own := RX12) (ini := false) (vs := [some (.ref (yb_ad G 176)), some (.int a1), some (.int a2)]) ⟨rfl, by decide +kernel⟩ (fun h => by cases h) (Nat.le_of_ble_eq_true rfl) rfl ?_
  unfold f_X12_alike at h
  refine n_aload_n (i := 0) dX12_alike_0 rfl rfl ?_
  refine n_iload_n (i := 1) dX12_alike_1 rfl rfl ?_
  obtain ⟨q1, hq1, h⟩ := yb_bind h
  refine p_callVi (As := [.int a1]) (t_X12_isRecord hq1) cv_X12_307 (sh_176 _ _) rfl rfl (Nat.le_of_ble_eq_true rfl) dX12_alike_2 (yb_rok (Nat.le_of_ble_eq_true rfl) (by decide)) ⟨rfl, rfl⟩ ⟨Nat.le_refl _, Nat.le_refl _⟩ (fun k2 => ?_)
  refine n_if_eq 40 dX12_alike_5 (by decide) (fun c3 => ?_) (fun c3 => ?_)
  · have h := yb_ifp c3 h
    exact p_jump (tj_X12_alike_40 h) trivial
  · have h := yb_ifn c3 h
    refine n_aload_n (i := 0) dX12_alike_8 rfl rfl ?_
    refine n_iload_n (i := 2) dX12_alike_9 rfl rfl ?_
    obtain ⟨q4, hq4, h⟩ := yb_bind h
    refine p_callVi (As := [.int a2]) (t_X12_isRecord hq4) cv_X12_307 (sh_176 _ _) rfl rfl (Nat.le_of_ble_eq_true rfl) dX12_alike_10 (yb_rok (Nat.le_of_ble_eq_true rfl) (by decide)) ⟨rfl, rfl⟩ ⟨Nat.le_refl _, Nat.le_refl _⟩ (fun k5 => ?_)
    refine n_if_eq 40 dX12_alike_13 (by decide) (fun c6 => ?_) (fun c6 => ?_)
    · have h := yb_ifp c6 h
      exact p_jump (tj_X12_alike_40 h) trivial
    · have h := yb_ifn c6 h
      refine n_aload_n (i := 0) dX12_alike_16 rfl rfl ?_
      refine p_getr fl_X12_86 (sh_176 _ _) rfl (rR_176_29 _ _) dX12_alike_17 ?_
      refine n_iload_n (i := 1) dX12_alike_20 rfl rfl ?_
      obtain ⟨v7, hv7, h⟩ := yb_bind h
      refine p_iald hv7 (sh_207 _ _) dX12_alike_21 ?_
      refine n_aload_n (i := 0) dX12_alike_22 rfl rfl ?_
      refine p_getr fl_X12_86 (sh_176 _ _) rfl (rR_176_29 _ _) dX12_alike_23 ?_
      refine n_iload_n (i := 2) dX12_alike_26 rfl rfl ?_
      obtain ⟨v8, hv8, h⟩ := yb_bind h
      refine p_iald hv8 (sh_207 _ _) dX12_alike_27 ?_
      refine n_icmp_eq 40 dX12_alike_28 (by decide) (fun c9 => ?_) (fun c9 => ?_)
      · have h := yb_ifp c9 h
        exact p_jump (tj_X12_alike_40 h) trivial
      · have h := yb_ifn c9 h
        refine n_aload_n (i := 0) dX12_alike_31 rfl rfl ?_
        refine n_iload_n (i := 1) dX12_alike_32 rfl rfl ?_
        refine n_iload_n (i := 2) dX12_alike_33 rfl rfl ?_
        obtain ⟨q10, hq10, h⟩ := yb_bind h
        refine p_callVi (As := [.int a1, .int a2]) (t_X12_areBarred hq10) cv_X12_310 (sh_176 _ _) rfl rfl (Nat.le_of_ble_eq_true rfl) dX12_alike_34 (yb_rok (Nat.le_of_ble_eq_true rfl) (by decide)) ⟨rfl, rfl⟩ ⟨Nat.le_refl _, Nat.le_refl _⟩ (fun k11 => ?_)
        refine n_if_eq 44 dX12_alike_37 (by decide) (fun c12 => ?_) (fun c12 => ?_)
        · have h := yb_ifp c12 h
          refine n_aload_n (i := 0) dX12_alike_44 rfl rfl ?_
          refine n_iload_n (i := 1) dX12_alike_45 rfl rfl ?_
          refine n_iload_n (i := 2) dX12_alike_46 rfl rfl ?_
          obtain ⟨q13, hq13, h⟩ := yb_bind h
          refine p_callVi (As := [.int a1, .int a2]) (t_X12_pointsOf hq13) cv_X12_315 (sh_176 _ _) rfl rfl (Nat.le_of_ble_eq_true rfl) dX12_alike_47 (yb_rok (Nat.le_of_ble_eq_true rfl) (by decide)) ⟨rfl, rfl⟩ ⟨Nat.le_refl _, Nat.le_refl _⟩ (fun k14 => ?_)
          cases h
          exact n_iret dX12_alike_50 rfl rfl (Nat.le_refl _) (Nat.le_refl _) ⟨rfl, rfl⟩
        · have h := yb_ifn c12 h
          exact p_jump (tj_X12_alike_40 h) trivial
set_option maxHeartbeats 4000000 in
set_option maxRecDepth 20000 in
theorem t_X12_apart {G : yb_G} {X : List (FieldType × Nat)} {a1 : Int32} {a2 : Int32} {a3 : Int32} {s : yb_S} {out : (Int32 × yb_S)} (h : f_X12_apart a1 a2 a3 s = some out) : Ct G yX12_apart cX12_apart 4 (Option.some .boolean) (yb_rm 2) [.ref (yb_ad G 176), .int a1, .int a2, .int a3] (yb_mk s X) (yb_qi X out.2 out.1) := by
  refine Ct.of (own := RX12) (ini := false) (vs := [some (.ref (yb_ad G 176)), some (.int a1), some (.int a2), some (.int a3)]) ⟨rfl, by decide +kernel⟩ (fun h => by cases h) (Nat.le_of_ble_eq_true rfl) rfl ?_
  unfold f_X12_apart at h
  refine n_iload_n (i := 1) dX12_apart_0 rfl rfl ?_
  refine n_i2l dX12_apart_1 ?_
  refine n_lconst (0 : Int64) dX12_apart_2 rfl ?_
  refine n_ldc2 (5 : Int64) k_X12_285 dX12_apart_3 ?_
  obtain ⟨q1, hq1, h⟩ := yb_bind h
  refine p_callSi (As := [.long (a1.toInt64), .long (0 : Int64), .long (5 : Int64)]) (t_X12_in hq1) cs_X12_247 rfl rfl (Nat.le_of_ble_eq_true rfl) dX12_apart_6 (yb_rok (Nat.le_of_ble_eq_true rfl) (by decide)) ⟨rfl, rfl⟩ ⟨Nat.le_refl _, Nat.le_refl _⟩ (fun k2 => ?_)
  refine n_if_eq 41 dX12_apart_9 (by decide) (fun c3 => ?_) (fun c3 => ?_)
  · have h := yb_ifp c3 h
    refine n_iconst (0 : Int32) dX12_apart_41 ic_0 ?_
    cases h
    exact n_iret dX12_apart_42 rfl (by decide) (Nat.le_refl _) (Nat.le_refl _) ⟨rfl, rfl⟩
  · have h := yb_ifn c3 h
    refine n_iload_n (i := 2) dX12_apart_12 rfl rfl ?_
    refine n_i2l dX12_apart_13 ?_
    refine n_lconst (0 : Int64) dX12_apart_14 rfl ?_
    refine n_ldc2 (5 : Int64) k_X12_285 dX12_apart_15 ?_
    obtain ⟨q4, hq4, h⟩ := yb_bind h
    refine p_callSi (As := [.long (a2.toInt64), .long (0 : Int64), .long (5 : Int64)]) (t_X12_in hq4) cs_X12_247 rfl rfl (Nat.le_of_ble_eq_true rfl) dX12_apart_18 (yb_rok (Nat.le_of_ble_eq_true rfl) (by decide)) ⟨rfl, rfl⟩ ⟨Nat.le_refl _, Nat.le_refl _⟩ (fun k5 => ?_)
    refine n_if_eq 41 dX12_apart_21 (by decide) (fun c6 => ?_) (fun c6 => ?_)
    · have h := yb_ifp c6 h
      refine n_iconst (0 : Int32) dX12_apart_41 ic_0 ?_
      cases h
      exact n_iret dX12_apart_42 rfl (by decide) (Nat.le_refl _) (Nat.le_refl _) ⟨rfl, rfl⟩
    · have h := yb_ifn c6 h
      refine n_iload_n (i := 1) dX12_apart_24 rfl rfl ?_
      refine n_iload_n (i := 2) dX12_apart_25 rfl rfl ?_
      refine n_icmp_eq 41 dX12_apart_26 (by decide) (fun c7 => ?_) (fun c7 => ?_)
      · have h := yb_ifp c7 h
        refine n_iconst (0 : Int32) dX12_apart_41 ic_0 ?_
        cases h
        exact n_iret dX12_apart_42 rfl (by decide) (Nat.le_refl _) (Nat.le_refl _) ⟨rfl, rfl⟩
      · have h := yb_ifn c7 h
        refine n_iload_n (i := 3) dX12_apart_29 rfl rfl ?_
        refine n_i2l dX12_apart_30 ?_
        refine n_lconst (0 : Int64) dX12_apart_31 rfl ?_
        refine n_ldc2 (200 : Int64) k_X12_270 dX12_apart_32 ?_
        obtain ⟨q8, hq8, h⟩ := yb_bind h
        refine p_callSi (As := [.long (a3.toInt64), .long (0 : Int64), .long (200 : Int64)]) (t_X12_in hq8) cs_X12_247 rfl rfl (Nat.le_of_ble_eq_true rfl) dX12_apart_35 (yb_rok (Nat.le_of_ble_eq_true rfl) (by decide)) ⟨rfl, rfl⟩ ⟨Nat.le_refl _, Nat.le_refl _⟩ (fun k9 => ?_)
        refine n_if_ne 43 dX12_apart_38 (by decide) (fun c10 => ?_) (fun c10 => ?_)
        · have h := yb_ifn c10 h
          refine n_aload_n (i := 0) dX12_apart_43 rfl rfl ?_
          refine p_getr fl_X12_83 (sh_176 _ _) rfl (rR_176_28 _ _) dX12_apart_44 ?_
          refine n_iload_n (i := 1) dX12_apart_47 rfl rfl ?_
          obtain ⟨r11, hr11, h⟩ := yb_bind h
          refine p_aald hr11 (sh_200 _ _) (by decide) rfl (rF_200 _ _) dX12_apart_48 ?_
          refine n_iload_n (i := 2) dX12_apart_49 rfl rfl ?_
          refine n_iload_n (i := 3) dX12_apart_50 rfl rfl ?_
          obtain ⟨s12, hs12, h⟩ := yb_bind h
          refine p_iast hs12 (shF_200 hr11 _ _) dX12_apart_51 ?_
          refine n_aload_n (i := 0) dX12_apart_52 rfl rfl ?_
          refine p_getr fl_X12_83 (sh_176 _ _) rfl (rR_176_28 _ _) dX12_apart_53 ?_
          refine n_iload_n (i := 2) dX12_apart_56 rfl rfl ?_
          obtain ⟨r13, hr13, h⟩ := yb_bind h
          refine p_aald hr13 (sh_200 _ _) (by decide) rfl (rF_200 _ _) dX12_apart_57 ?_
          refine n_iload_n (i := 1) dX12_apart_58 rfl rfl ?_
          refine n_iload_n (i := 3) dX12_apart_59 rfl rfl ?_
          obtain ⟨s14, hs14, h⟩ := yb_bind h
          refine p_iast hs14 (shF_200 hr13 _ _) dX12_apart_60 ?_
          refine n_iconst (1 : Int32) dX12_apart_61 ic_1 ?_
          cases h
          exact n_iret dX12_apart_62 rfl (by decide) (Nat.le_refl _) (Nat.le_refl _) ⟨rfl, rfl⟩
        · have h := yb_ifp c10 h
          refine n_iconst (0 : Int32) dX12_apart_41 ic_0 ?_
          cases h
          exact n_iret dX12_apart_42 rfl (by decide) (Nat.le_refl _) (Nat.le_refl _) ⟨rfl, rfl⟩
set_option maxHeartbeats 4000000 in
set_option maxRecDepth 20000 in
theorem t_X12_areDays {G : yb_G} {X : List (FieldType × Nat)} {a0 : Int32} {s : yb_S} {out : Int32} (h : f_X12_areDays a0 s = some out) : Ct G yX12_areDays cX12_areDays 1 (Option.some .boolean) (yb_rm 1) [.int a0] (yb_mk s X) (yb_qi X s out) := by
  refine Ct.of (own := RX12) (ini := false) (vs := [some (.int a0)]) ⟨rfl, by decide +kernel⟩ (fun h => by cases h) (Nat.le_of_ble_eq_true rfl) rfl ?_
  unfold f_X12_areDays at h
  refine n_iload_n (i := 0) dX12_areDays_0 rfl rfl ?_
  refine n_if_lt 32 dX12_areDays_1 (by decide) (fun c1 => ?_) (fun c1 => ?_)
  · have h := yb_ifp c1 h
    refine n_iconst (0 : Int32) dX12_areDays_32 ic_0 ?_
    cases h
    exact n_iret dX12_areDays_33 rfl (by decide) (Nat.le_refl _) (Nat.le_refl _) ⟨rfl, rfl⟩
  · have h := yb_ifn c1 h
    refine n_iload_n (i := 0) dX12_areDays_4 rfl rfl ?_
    refine n_sipush (1000 : Int32) dX12_areDays_5 sp_1000 ?_
    refine n_idiv dX12_areDays_8 (by decide) ?_
    refine n_iload_n (i := 0) dX12_areDays_9 rfl rfl ?_
    refine n_sipush (1000 : Int32) dX12_areDays_10 sp_1000 ?_
    refine p_irem (by decide) dX12_areDays_13 ?_
    refine n_icmp_gt 32 dX12_areDays_14 (by decide) (fun c2 => ?_) (fun c2 => ?_)
    · have h := yb_ifp c2 h
      refine n_iconst (0 : Int32) dX12_areDays_32 ic_0 ?_
      cases h
      exact n_iret dX12_areDays_33 rfl (by decide) (Nat.le_refl _) (Nat.le_refl _) ⟨rfl, rfl⟩
    · have h := yb_ifn c2 h
      refine n_iload_n (i := 0) dX12_areDays_17 rfl rfl ?_
      refine n_sipush (1000 : Int32) dX12_areDays_18 sp_1000 ?_
      refine p_irem (by decide) dX12_areDays_21 ?_
      refine n_sipush (200 : Int32) dX12_areDays_22 sp_200 ?_
      refine n_icmp_gt 32 dX12_areDays_25 (by decide) (fun c3 => ?_) (fun c3 => ?_)
      · have h := yb_ifp c3 h
        refine n_iconst (0 : Int32) dX12_areDays_32 ic_0 ?_
        cases h
        exact n_iret dX12_areDays_33 rfl (by decide) (Nat.le_refl _) (Nat.le_refl _) ⟨rfl, rfl⟩
      · have h := yb_ifn c3 h
        refine n_iconst (1 : Int32) dX12_areDays_28 ic_1 ?_
        refine n_goto 33 dX12_areDays_29 (by decide) ?_
        cases h
        exact n_iret dX12_areDays_33 rfl (by decide) (Nat.le_refl _) (Nat.le_refl _) ⟨rfl, rfl⟩
set_option maxHeartbeats 4000000 in
set_option maxRecDepth 20000 in
theorem tj_X12_isOf_37 {G : yb_G} {X : List (FieldType × Nat)} {rc2 : (Int32 → Option Int32)} {x1 : Int32} {x2 : Int32} {x3 : Int32} {s : yb_S} {out : Int32} (hrc2 : ∀ (x3' : Int32), rc2 x3' = some out → Rn G RX12 cX12_isOf 4 (Option.some .boolean) false (yb_rm 1) (yb_qi X s out) 0 0 2 [some (.ref (yb_ad G 176)), some (.int x1), some (.int x2), some (.int x3')] [] (yb_mk s X)) (h : j_X12_isOf_37 rc2 x1 x2 x3 s = some out) : Rn G RX12 cX12_isOf 4 (Option.some .boolean) false (yb_rm 1) (yb_qi X s out) 0 0 37 [some (.ref (yb_ad G 176)), some (.int x1), some (.int x2), some (.int x3)] [] (yb_mk s X) := by
  unfold j_X12_isOf_37 at h
  refine n_iinc (vs' := [some (.ref (yb_ad G 176)), some (.int x1), some (.int x2), some (.int (x3 + (1 : Int32)))]) dX12_isOf_37 rfl (ii_1 _) (Nat.le_of_ble_eq_true rfl) rfl rfl ?_
  refine n_goto 2 dX12_isOf_40 (by decide) ?_
  exact p_jump (hrc2 (x3 + (1 : Int32)) h) (And.intro rfl (And.intro rfl (And.intro rfl (And.intro rfl trivial))))
set_option maxHeartbeats 4000000 in
set_option maxRecDepth 20000 in
theorem t_l_X12_isOf_2 {G : yb_G} {X : List (FieldType × Nat)} {x1 : Int32} {x2 : Int32} {s : yb_S} {out : Int32} : ∀ (k0 : Nat) (x3 : Int32), l_X12_isOf_2 x1 x2 s k0 x3 = some out → Rn G RX12 cX12_isOf 4 (Option.some .boolean) false (yb_rm 1) (yb_qi X s out) 0 0 2 [some (.ref (yb_ad G 176)), some (.int x1), some (.int x2), some (.int x3)] [] (yb_mk s X) := by
  intro k0
  induction k0 with
  | zero => intro x3 h; cases h
  | succ k0 ih =>
    intro x3 h
    have h : f_X12_isOf_2 (fun x3 => l_X12_isOf_2 x1 x2 s k0 x3) x1 x2 s x3 = some out := h
    have hrc2 := ih
    unfold f_X12_isOf_2 at h
    refine n_iload_n (i := 3) dX12_isOf_2 rfl rfl ?_
    refine n_aload_n (i := 0) dX12_isOf_3 rfl rfl ?_
    refine p_geti fl_X12_290 (sh_176 _ _) rfl dX12_isOf_4 ?_
    refine n_icmp_ge 43 dX12_isOf_7 (by decide) (fun c1 => ?_) (fun c1 => ?_)
    · have h := yb_ifp c1 h
      refine n_iconst (0 : Int32) dX12_isOf_43 ic_0 ?_
      cases h
      exact n_iret dX12_isOf_44 rfl (by decide) (Nat.le_refl _) (Nat.le_refl _) ⟨rfl, rfl⟩
    · have h := yb_ifn c1 h
      refine n_aload_n (i := 0) dX12_isOf_10 rfl rfl ?_
      refine p_getr fl_X12_101 (sh_176 _ _) rfl (rR_176_34 _ _) dX12_isOf_11 ?_
      refine n_iload_n (i := 3) dX12_isOf_14 rfl rfl ?_
      obtain ⟨v2, hv2, h⟩ := yb_bind h
      refine p_iald hv2 (sh_212 _ _) dX12_isOf_15 ?_
      refine n_iload_n (i := 2) dX12_isOf_16 rfl rfl ?_
      refine n_icmp_ne 37 dX12_isOf_17 (by decide) (fun c3 => ?_) (fun c3 => ?_)
      · have h := yb_ifn c3 h
        exact p_jump (tj_X12_isOf_37 hrc2 h) (And.intro rfl (And.intro rfl (And.intro rfl (And.intro rfl trivial))))
      · have h := yb_ifp c3 h
        refine n_aload_n (i := 0) dX12_isOf_20 rfl rfl ?_
        refine p_getr fl_X12_104 (sh_176 _ _) rfl (rR_176_35 _ _) dX12_isOf_21 ?_
        refine n_iload_n (i := 3) dX12_isOf_24 rfl rfl ?_
        obtain ⟨v4, hv4, h⟩ := yb_bind h
        refine p_iald hv4 (sh_213 _ _) dX12_isOf_25 ?_
        refine n_aload_n (i := 0) dX12_isOf_26 rfl rfl ?_
        refine p_getr fl_X12_104 (sh_176 _ _) rfl (rR_176_35 _ _) dX12_isOf_27 ?_
        refine n_iload_n (i := 1) dX12_isOf_30 rfl rfl ?_
        obtain ⟨v5, hv5, h⟩ := yb_bind h
        refine p_iald hv5 (sh_213 _ _) dX12_isOf_31 ?_
        refine n_icmp_ne 37 dX12_isOf_32 (by decide) (fun c6 => ?_) (fun c6 => ?_)
        · have h := yb_ifn c6 h
          exact p_jump (tj_X12_isOf_37 hrc2 h) (And.intro rfl (And.intro rfl (And.intro rfl (And.intro rfl trivial))))
        · have h := yb_ifp c6 h
          refine n_iconst (1 : Int32) dX12_isOf_35 ic_1 ?_
          cases h
          exact n_iret dX12_isOf_36 rfl (by decide) (Nat.le_refl _) (Nat.le_refl _) ⟨rfl, rfl⟩
set_option maxHeartbeats 4000000 in
set_option maxRecDepth 20000 in
theorem tl_X12_isOf_2 {G : yb_G} {X : List (FieldType × Nat)} {x1 : Int32} {x2 : Int32} {s : yb_S} {out : Int32} {x3 : Int32} (h : l_X12_isOf_2 x1 x2 s yb_N x3 = some out) : Rn G RX12 cX12_isOf 4 (Option.some .boolean) false (yb_rm 1) (yb_qi X s out) 0 0 2 [some (.ref (yb_ad G 176)), some (.int x1), some (.int x2), some (.int x3)] [] (yb_mk s X) := t_l_X12_isOf_2 _ _ h
set_option maxHeartbeats 4000000 in
set_option maxRecDepth 20000 in
theorem t_X12_isOf {G : yb_G} {X : List (FieldType × Nat)} {a1 : Int32} {a2 : Int32} {s : yb_S} {out : Int32} (h : f_X12_isOf a1 a2 s = some out) : Ct G yX12_isOf cX12_isOf 4 (Option.some .boolean) (yb_rm 1) [.ref (yb_ad G 176), .int a1, .int a2] (yb_mk s X) (yb_qi X s out) := by
  refine Ct.of (own := RX12) (ini := false) (vs := [some (.ref (yb_ad G 176)), some (.int a1), some (.int a2), none]) ⟨rfl, by decide +kernel⟩ (fun h => by cases h) (Nat.le_of_ble_eq_true rfl) rfl ?_
  unfold f_X12_isOf at h
  refine n_iconst (0 : Int32) dX12_isOf_0 ic_0 ?_
  refine n_istore_n (i := 3) (vs' := [some (.ref (yb_ad G 176)), some (.int a1), some (.int a2), some (.int (0 : Int32))]) dX12_isOf_1 rfl (Nat.le_of_ble_eq_true rfl) rfl rfl ?_
  exact p_jump (tl_X12_isOf_2 h) (And.intro rfl (And.intro rfl (And.intro rfl (And.intro rfl trivial))))
set_option maxHeartbeats 4000000 in
set_option maxRecDepth 20000 in
theorem tj_X12_reckons_167 {G : yb_G} {X : List (FieldType × Nat)} {rc43 : (Int32 → yb_S → Option yb_S)} {rc53 : (Int32 → yb_S → Option yb_S)} {x1 : Int32} {x2 : Int32} {s : yb_S} {out : yb_S} (hrc43 : ∀ (x1' : Int32) (s' : yb_S), rc43 x1' s' = some out → Rn G RX12 cX12_reckons 5 none false (yb_rm 3) (yb_qv X out) 0 0 43 [some (.ref (yb_ad G 176)), some (.int x1'), none, none, none] [] (yb_mk s' X)) (hrc53 : ∀ (x2' : Int32) (s' : yb_S), rc53 x2' s' = some out → Rn G RX12 cX12_reckons 5 none false (yb_rm 3) (yb_qv X out) 0 0 53 [some (.ref (yb_ad G 176)), some (.int x1), some (.int x2'), none, none] [] (yb_mk s' X)) (h : j_X12_reckons_167 rc43 rc53 x1 x2 s = some out) : Rn G RX12 cX12_reckons 5 none false (yb_rm 3) (yb_qv X out) 0 0 167 [some (.ref (yb_ad G 176)), some (.int x1), some (.int x2), none, none] [] (yb_mk s X) := by
  unfold j_X12_reckons_167 at h
  refine n_iinc (vs' := [some (.ref (yb_ad G 176)), some (.int x1), some (.int (x2 + (1 : Int32))), none, none]) dX12_reckons_167 rfl (ii_1 _) (Nat.le_of_ble_eq_true rfl) rfl rfl ?_
  refine n_goto 53 dX12_reckons_170 (by decide) ?_
  exact p_jump (hrc53 (x2 + (1 : Int32)) s h) (And.intro rfl (And.intro rfl (And.intro rfl trivial)))
set_option maxHeartbeats 4000000 in
set_option maxRecDepth 20000 in
theorem tj_X12_reckons_161 {G : yb_G} {X : List (FieldType × Nat)} {rc43 : (Int32 → yb_S → Option yb_S)} {rc53 : (Int32 → yb_S → Option yb_S)} {rc75 : (Int32 → yb_S → Option yb_S)} {x1 : Int32} {x2 : Int32} {x3 : Int32} {s : yb_S} {out : yb_S} (hrc43 : ∀ (x1' : Int32) (s' : yb_S), rc43 x1' s' = some out → Rn G RX12 cX12_reckons 5 none false (yb_rm 3) (yb_qv X out) 0 0 43 [some (.ref (yb_ad G 176)), some (.int x1'), none, none, none] [] (yb_mk s' X)) (hrc53 : ∀ (x2' : Int32) (s' : yb_S), rc53 x2' s' = some out → Rn G RX12 cX12_reckons 5 none false (yb_rm 3) (yb_qv X out) 0 0 53 [some (.ref (yb_ad G 176)), some (.int x1), some (.int x2'), none, none] [] (yb_mk s' X)) (hrc75 : ∀ (x3' : Int32) (s' : yb_S), rc75 x3' s' = some out → Rn G RX12 cX12_reckons 5 none false (yb_rm 3) (yb_qv X out) 0 0 75 [some (.ref (yb_ad G 176)), some (.int x1), some (.int x2), some (.int x3'), none] [] (yb_mk s' X)) (h : j_X12_reckons_161 rc43 rc53 rc75 x1 x2 x3 s = some out) : Rn G RX12 cX12_reckons 5 none false (yb_rm 3) (yb_qv X out) 0 0 161 [some (.ref (yb_ad G 176)), some (.int x1), some (.int x2), some (.int x3), none] [] (yb_mk s X) := by
  unfold j_X12_reckons_161 at h
  refine n_iinc (vs' := [some (.ref (yb_ad G 176)), some (.int x1), some (.int x2), some (.int (x3 + (1 : Int32))), none]) dX12_reckons_161 rfl (ii_1 _) (Nat.le_of_ble_eq_true rfl) rfl rfl ?_
  refine n_goto 75 dX12_reckons_164 (by decide) ?_
  exact p_jump (hrc75 (x3 + (1 : Int32)) s h) (And.intro rfl (And.intro rfl (And.intro rfl (And.intro rfl trivial))))
set_option maxHeartbeats 4000000 in
set_option maxRecDepth 20000 in
theorem t_l_X12_reckons_75 {G : yb_G} {X : List (FieldType × Nat)} {rc43 : (Int32 → yb_S → Option yb_S)} {rc53 : (Int32 → yb_S → Option yb_S)} {x1 : Int32} {x2 : Int32} {out : yb_S} (hrc43 : ∀ (x1' : Int32) (s' : yb_S), rc43 x1' s' = some out → Rn G RX12 cX12_reckons 5 none false (yb_rm 3) (yb_qv X out) 0 0 43 [some (.ref (yb_ad G 176)), some (.int x1'), none, none, none] [] (yb_mk s' X)) (hrc53 : ∀ (x2' : Int32) (s' : yb_S), rc53 x2' s' = some out → Rn G RX12 cX12_reckons 5 none false (yb_rm 3) (yb_qv X out) 0 0 53 [some (.ref (yb_ad G 176)), some (.int x1), some (.int x2'), none, none] [] (yb_mk s' X)) : ∀ (k0 : Nat) (x3 : Int32) (s : yb_S), l_X12_reckons_75 rc43 rc53 x1 x2 k0 x3 s = some out → Rn G RX12 cX12_reckons 5 none false (yb_rm 3) (yb_qv X out) 0 0 75 [some (.ref (yb_ad G 176)), some (.int x1), some (.int x2), some (.int x3), none] [] (yb_mk s X) := by
  intro k0
  induction k0 with
  | zero => intro x3 s h; cases h
  | succ k0 ih =>
    intro x3 s h
    have h : f_X12_reckons_75 rc43 rc53 (fun x3 s => l_X12_reckons_75 rc43 rc53 x1 x2 k0 x3 s) x1 x2 x3 s = some out := h
    have hrc75 := ih
    unfold f_X12_reckons_75 at h
    refine n_iload_n (i := 3) dX12_reckons_75 rfl rfl ?_
    refine n_aload_n (i := 0) dX12_reckons_76 rfl rfl ?_
    refine p_geti fl_X12_328 (sh_176 _ _) rfl dX12_reckons_77 ?_
    refine n_icmp_ge 167 dX12_reckons_80 (by decide) (fun c8 => ?_) (fun c8 => ?_)
    · have h := yb_ifp c8 h
      exact p_jump (tj_X12_reckons_167 hrc43 hrc53 h) (And.intro rfl (And.intro rfl (And.intro rfl trivial)))
    · have h := yb_ifn c8 h
      refine n_aload_n (i := 0) dX12_reckons_83 rfl rfl ?_
      refine p_getr fl_X12_110 (sh_176 _ _) rfl (rR_176_38 _ _) dX12_reckons_84 ?_
      refine n_iload_n (i := 3) dX12_reckons_87 rfl rfl ?_
      obtain ⟨v9, hv9, h⟩ := yb_bind h
      refine p_iald hv9 (sh_215 _ _) dX12_reckons_88 ?_
      refine n_aload_n (i := 0) dX12_reckons_89 rfl rfl ?_
      refine p_getr fl_X12_113 (sh_176 _ _) rfl (rR_176_39 _ _) dX12_reckons_90 ?_
      refine n_iload_n (i := 3) dX12_reckons_93 rfl rfl ?_
      obtain ⟨v10, hv10, h⟩ := yb_bind h
      refine p_iald hv10 (sh_216 _ _) dX12_reckons_94 ?_
      refine n_aload_n (i := 0) dX12_reckons_95 rfl rfl ?_
      refine p_getr fl_X12_89 (sh_176 _ _) rfl (rR_176_30 _ _) dX12_reckons_96 ?_
      refine n_iload_n (i := 1) dX12_reckons_99 rfl rfl ?_
      obtain ⟨v11, hv11, h⟩ := yb_bind h
      refine p_iald hv11 (sh_208 _ _) dX12_reckons_100 ?_
      refine n_aload_n (i := 0) dX12_reckons_101 rfl rfl ?_
      refine p_getr fl_X12_92 (sh_176 _ _) rfl (rR_176_31 _ _) dX12_reckons_102 ?_
      refine n_iload_n (i := 1) dX12_reckons_105 rfl rfl ?_
      obtain ⟨v12, hv12, h⟩ := yb_bind h
      refine p_iald hv12 (sh_209 _ _) dX12_reckons_106 ?_
      obtain ⟨q13, hq13, h⟩ := yb_bind h
      refine p_callSi (As := [.int v9, .int v10, .int v11, .int v12]) (t_X12_points hq13) cs_X12_303 rfl rfl (Nat.le_of_ble_eq_true rfl) dX12_reckons_107 (yb_rok (Nat.le_of_ble_eq_true rfl) (by decide)) ⟨rfl, rfl⟩ ⟨Nat.le_refl _, Nat.le_refl _⟩ (fun k14 => ?_)
      refine n_istore (i := 4) (vs' := [some (.ref (yb_ad G 176)), some (.int x1), some (.int x2), some (.int x3), some (.int q13)]) dX12_reckons_110 (Nat.le_of_ble_eq_true rfl) rfl rfl ?_
      refine n_aload_n (i := 0) dX12_reckons_112 rfl rfl ?_
      refine p_getr fl_X12_107 (sh_176 _ _) rfl (rR_176_37 _ _) dX12_reckons_113 ?_
      refine n_iload_n (i := 3) dX12_reckons_116 rfl rfl ?_
      obtain ⟨v15, hv15, h⟩ := yb_bind h
      refine p_iald hv15 (sh_214 _ _) dX12_reckons_117 ?_
      refine n_iload_n (i := 2) dX12_reckons_118 rfl rfl ?_
      refine n_icmp_eq 161 dX12_reckons_119 (by decide) (fun c16 => ?_) (fun c16 => ?_)
      · have h := yb_ifp c16 h
        exact p_jump (tj_X12_reckons_161 hrc43 hrc53 hrc75 h) (And.intro rfl (And.intro rfl (And.intro rfl (And.intro rfl trivial))))
      · have h := yb_ifn c16 h
        refine n_iload dX12_reckons_122 rfl ?_
        refine n_iconst (5 : Int32) dX12_reckons_124 ic_5 ?_
        refine n_icmp_lt 161 dX12_reckons_125 (by decide) (fun c17 => ?_) (fun c17 => ?_)
        · have h := yb_ifp c17 h
          exact p_jump (tj_X12_reckons_161 hrc43 hrc53 hrc75 h) (And.intro rfl (And.intro rfl (And.intro rfl (And.intro rfl trivial))))
        · have h := yb_ifn c17 h
          refine n_iload dX12_reckons_128 rfl ?_
          refine n_aload_n (i := 0) dX12_reckons_130 rfl rfl ?_
          refine p_getr fl_X12_116 (sh_176 _ _) rfl (rR_176_41 _ _) dX12_reckons_131 ?_
          refine n_aload_n (i := 0) dX12_reckons_134 rfl rfl ?_
          refine p_getr fl_X12_107 (sh_176 _ _) rfl (rR_176_37 _ _) dX12_reckons_135 ?_
          refine n_iload_n (i := 3) dX12_reckons_138 rfl rfl ?_
          obtain ⟨v18, hv18, h⟩ := yb_bind h
          refine p_iald hv18 (sh_214 _ _) dX12_reckons_139 ?_
          obtain ⟨r19, hr19, h⟩ := yb_bind h
          refine p_aald hr19 (sh_217 _ _) (by decide) rfl (rF_217 _ _) dX12_reckons_140 ?_
          refine n_iload_n (i := 2) dX12_reckons_141 rfl rfl ?_
          obtain ⟨v20, hv20, h⟩ := yb_bind h
          refine p_iald hv20 (shF_217 hr19 _ _) dX12_reckons_142 ?_
          refine n_icmp_le 161 dX12_reckons_143 (by decide) (fun c21 => ?_) (fun c21 => ?_)
          · have h := yb_ifp c21 h
            exact p_jump (tj_X12_reckons_161 hrc43 hrc53 hrc75 h) (And.intro rfl (And.intro rfl (And.intro rfl (And.intro rfl trivial))))
          · have h := yb_ifn c21 h
            refine n_aload_n (i := 0) dX12_reckons_146 rfl rfl ?_
            refine p_getr fl_X12_116 (sh_176 _ _) rfl (rR_176_41 _ _) dX12_reckons_147 ?_
            refine n_aload_n (i := 0) dX12_reckons_150 rfl rfl ?_
            refine p_getr fl_X12_107 (sh_176 _ _) rfl (rR_176_37 _ _) dX12_reckons_151 ?_
            refine n_iload_n (i := 3) dX12_reckons_154 rfl rfl ?_
            obtain ⟨v22, hv22, h⟩ := yb_bind h
            refine p_iald hv22 (sh_214 _ _) dX12_reckons_155 ?_
            obtain ⟨r23, hr23, h⟩ := yb_bind h
            refine p_aald hr23 (sh_217 _ _) (by decide) rfl (rF_217 _ _) dX12_reckons_156 ?_
            refine n_iload_n (i := 2) dX12_reckons_157 rfl rfl ?_
            refine n_iload dX12_reckons_158 rfl ?_
            obtain ⟨s24, hs24, h⟩ := yb_bind h
            refine p_iast hs24 (shF_217 hr23 _ _) dX12_reckons_160 ?_
            exact p_jump (tj_X12_reckons_161 hrc43 hrc53 hrc75 h) (And.intro rfl (And.intro rfl (And.intro rfl (And.intro rfl trivial))))
set_option maxHeartbeats 4000000 in
set_option maxRecDepth 20000 in
theorem tl_X12_reckons_75 {G : yb_G} {X : List (FieldType × Nat)} {rc43 : (Int32 → yb_S → Option yb_S)} {rc53 : (Int32 → yb_S → Option yb_S)} {x1 : Int32} {x2 : Int32} {out : yb_S} (hrc43 : ∀ (x1' : Int32) (s' : yb_S), rc43 x1' s' = some out → Rn G RX12 cX12_reckons 5 none false (yb_rm 3) (yb_qv X out) 0 0 43 [some (.ref (yb_ad G 176)), some (.int x1'), none, none, none] [] (yb_mk s' X)) (hrc53 : ∀ (x2' : Int32) (s' : yb_S), rc53 x2' s' = some out → Rn G RX12 cX12_reckons 5 none false (yb_rm 3) (yb_qv X out) 0 0 53 [some (.ref (yb_ad G 176)), some (.int x1), some (.int x2'), none, none] [] (yb_mk s' X)) {x3 : Int32} {s : yb_S} (h : l_X12_reckons_75 rc43 rc53 x1 x2 yb_N x3 s = some out) : Rn G RX12 cX12_reckons 5 none false (yb_rm 3) (yb_qv X out) 0 0 75 [some (.ref (yb_ad G 176)), some (.int x1), some (.int x2), some (.int x3), none] [] (yb_mk s X) := t_l_X12_reckons_75 hrc43 hrc53 _ _ _ h
set_option maxHeartbeats 4000000 in
set_option maxRecDepth 20000 in
theorem t_l_X12_reckons_53 {G : yb_G} {X : List (FieldType × Nat)} {rc43 : (Int32 → yb_S → Option yb_S)} {x1 : Int32} {out : yb_S} (hrc43 : ∀ (x1' : Int32) (s' : yb_S), rc43 x1' s' = some out → Rn G RX12 cX12_reckons 5 none false (yb_rm 3) (yb_qv X out) 0 0 43 [some (.ref (yb_ad G 176)), some (.int x1'), none, none, none] [] (yb_mk s' X)) : ∀ (k0 : Nat) (x2 : Int32) (s : yb_S), l_X12_reckons_53 rc43 x1 k0 x2 s = some out → Rn G RX12 cX12_reckons 5 none false (yb_rm 3) (yb_qv X out) 0 0 53 [some (.ref (yb_ad G 176)), some (.int x1), some (.int x2), none, none] [] (yb_mk s X) := by
  intro k0
  induction k0 with
  | zero => intro x2 s h; cases h
  | succ k0 ih =>
    intro x2 s h
    have h : f_X12_reckons_53 rc43 (fun x2 s => l_X12_reckons_53 rc43 x1 k0 x2 s) x1 x2 s = some out := h
    have hrc53 := ih
    unfold f_X12_reckons_53 at h
    refine n_iload_n (i := 2) dX12_reckons_53 rfl rfl ?_
    refine n_aload_n (i := 0) dX12_reckons_54 rfl rfl ?_
    refine p_geti fl_X12_254 (sh_176 _ _) rfl dX12_reckons_55 ?_
    refine n_icmp_ge 173 dX12_reckons_58 (by decide) (fun c4 => ?_) (fun c4 => ?_)
    · have h := yb_ifp c4 h
      refine n_iinc (vs' := [some (.ref (yb_ad G 176)), some (.int (x1 + (1 : Int32))), some (.int x2), none, none]) dX12_reckons_173 rfl (ii_1 _) (Nat.le_of_ble_eq_true rfl) rfl rfl ?_
      refine n_goto 43 dX12_reckons_176 (by decide) ?_
      exact p_jump (hrc43 (x1 + (1 : Int32)) s h) (And.intro rfl (And.intro rfl trivial))
    · have h := yb_ifn c4 h
      refine n_aload_n (i := 0) dX12_reckons_61 rfl rfl ?_
      refine n_iload_n (i := 1) dX12_reckons_62 rfl rfl ?_
      refine n_iload_n (i := 2) dX12_reckons_63 rfl rfl ?_
      obtain ⟨q5, hq5, h⟩ := yb_bind h
      refine p_callVi (As := [.int x1, .int x2]) (t_X12_isOf hq5) cv_X12_331 (sh_176 _ _) rfl rfl (Nat.le_of_ble_eq_true rfl) dX12_reckons_64 (yb_rok (Nat.le_of_ble_eq_true rfl) (by decide)) ⟨rfl, rfl⟩ ⟨Nat.le_refl _, Nat.le_refl _⟩ (fun k6 => ?_)
      refine n_if_ne 73 dX12_reckons_67 (by decide) (fun c7 => ?_) (fun c7 => ?_)
      · have h := yb_ifn c7 h
        refine n_iconst (0 : Int32) dX12_reckons_73 ic_0 ?_
        refine n_istore_n (i := 3) (vs' := [some (.ref (yb_ad G 176)), some (.int x1), some (.int x2), some (.int (0 : Int32)), none]) dX12_reckons_74 rfl (Nat.le_of_ble_eq_true rfl) rfl rfl ?_
        exact p_jump (tl_X12_reckons_75 hrc43 hrc53 h) (And.intro rfl (And.intro rfl (And.intro rfl (And.intro rfl trivial))))
      · have h := yb_ifp c7 h
        refine n_goto 167 dX12_reckons_70 (by decide) ?_
        exact p_jump (tj_X12_reckons_167 hrc43 hrc53 h) (And.intro rfl (And.intro rfl (And.intro rfl trivial)))
set_option maxHeartbeats 4000000 in
set_option maxRecDepth 20000 in
theorem tl_X12_reckons_53 {G : yb_G} {X : List (FieldType × Nat)} {rc43 : (Int32 → yb_S → Option yb_S)} {x1 : Int32} {out : yb_S} (hrc43 : ∀ (x1' : Int32) (s' : yb_S), rc43 x1' s' = some out → Rn G RX12 cX12_reckons 5 none false (yb_rm 3) (yb_qv X out) 0 0 43 [some (.ref (yb_ad G 176)), some (.int x1'), none, none, none] [] (yb_mk s' X)) {x2 : Int32} {s : yb_S} (h : l_X12_reckons_53 rc43 x1 yb_N x2 s = some out) : Rn G RX12 cX12_reckons 5 none false (yb_rm 3) (yb_qv X out) 0 0 53 [some (.ref (yb_ad G 176)), some (.int x1), some (.int x2), none, none] [] (yb_mk s X) := t_l_X12_reckons_53 hrc43 _ _ _ h
set_option maxHeartbeats 4000000 in
set_option maxRecDepth 20000 in
theorem t_l_X12_reckons_43 {G : yb_G} {X : List (FieldType × Nat)} {out : yb_S} : ∀ (k0 : Nat) (x1 : Int32) (s : yb_S), l_X12_reckons_43 k0 x1 s = some out → Rn G RX12 cX12_reckons 5 none false (yb_rm 3) (yb_qv X out) 0 0 43 [some (.ref (yb_ad G 176)), some (.int x1), none, none, none] [] (yb_mk s X) := by
  intro k0
  induction k0 with
  | zero => intro x1 s h; cases h
  | succ k0 ih =>
    intro x1 s h
    have h : f_X12_reckons_43 (fun x1 s => l_X12_reckons_43 k0 x1 s) x1 s = some out := h
    have hrc43 := ih
    unfold f_X12_reckons_43 at h
    refine n_iload_n (i := 1) dX12_reckons_43 rfl rfl ?_
    refine n_aload_n (i := 0) dX12_reckons_44 rfl rfl ?_
    refine p_geti fl_X12_290 (sh_176 _ _) rfl dX12_reckons_45 ?_
    refine n_icmp_ge 179 dX12_reckons_48 (by decide) (fun c2 => ?_) (fun c2 => ?_)
    · have h := yb_ifp c2 h
      refine n_aload_n (i := 0) dX12_reckons_179 rfl rfl ?_
      refine n_iconst (1 : Int32) dX12_reckons_180 ic_1 ?_
      obtain ⟨s3, hs3, h⟩ := yb_bind h
      refine p_puti hs3 fp_X12_278 (sh_176 _ _) rfl rfl rfl dX12_reckons_181 ?_
      cases h
      exact n_vret dX12_reckons_184 rfl (Nat.le_refl _) (Nat.le_refl _) ⟨rfl, rfl⟩
    · have h := yb_ifn c2 h
      refine n_iconst (0 : Int32) dX12_reckons_51 ic_0 ?_
      refine n_istore_n (i := 2) (vs' := [some (.ref (yb_ad G 176)), some (.int x1), some (.int (0 : Int32)), none, none]) dX12_reckons_52 rfl (Nat.le_of_ble_eq_true rfl) rfl rfl ?_
      exact p_jump (tl_X12_reckons_53 hrc43 h) (And.intro rfl (And.intro rfl (And.intro rfl trivial)))
set_option maxHeartbeats 4000000 in
set_option maxRecDepth 20000 in
theorem tl_X12_reckons_43 {G : yb_G} {X : List (FieldType × Nat)} {out : yb_S} {x1 : Int32} {s : yb_S} (h : l_X12_reckons_43 yb_N x1 s = some out) : Rn G RX12 cX12_reckons 5 none false (yb_rm 3) (yb_qv X out) 0 0 43 [some (.ref (yb_ad G 176)), some (.int x1), none, none, none] [] (yb_mk s X) := t_l_X12_reckons_43 _ _ _ h
set_option maxHeartbeats 4000000 in
set_option maxRecDepth 20000 in
theorem t_l_X12_reckons_12 {G : yb_G} {X : List (FieldType × Nat)} {rc2 : (Int32 → yb_S → Option yb_S)} {x1 : Int32} {out : yb_S} (hrc2 : ∀ (x1' : Int32) (s' : yb_S), rc2 x1' s' = some out → Rn G RX12 cX12_reckons 5 none false (yb_rm 3) (yb_qv X out) 0 0 2 [some (.ref (yb_ad G 176)), some (.int x1'), none, none, none] [] (yb_mk s' X)) : ∀ (k0 : Nat) (x2 : Int32) (s : yb_S), l_X12_reckons_12 rc2 x1 k0 x2 s = some out → Rn G RX12 cX12_reckons 5 none false (yb_rm 3) (yb_qv X out) 0 0 12 [some (.ref (yb_ad G 176)), some (.int x1), some (.int x2), none, none] [] (yb_mk s X) := by
  intro k0
  induction k0 with
  | zero => intro x2 s h; cases h
  | succ k0 ih =>
    intro x2 s h
    have h : f_X12_reckons_12 rc2 (fun x2 s => l_X12_reckons_12 rc2 x1 k0 x2 s) x1 x2 s = some out := h
    have hrc12 := ih
    unfold f_X12_reckons_12 at h
    refine n_iload_n (i := 2) dX12_reckons_12 rfl rfl ?_
    refine n_aload_n (i := 0) dX12_reckons_13 rfl rfl ?_
    refine p_geti fl_X12_254 (sh_176 _ _) rfl dX12_reckons_14 ?_
    refine n_icmp_ge 35 dX12_reckons_17 (by decide) (fun c25 => ?_) (fun c25 => ?_)
    · have h := yb_ifp c25 h
      refine n_iinc (vs' := [some (.ref (yb_ad G 176)), some (.int (x1 + (1 : Int32))), some (.int x2), none, none]) dX12_reckons_35 rfl (ii_1 _) (Nat.le_of_ble_eq_true rfl) rfl rfl ?_
      refine n_goto 2 dX12_reckons_38 (by decide) ?_
      exact p_jump (hrc2 (x1 + (1 : Int32)) s h) (And.intro rfl (And.intro rfl trivial))
    · have h := yb_ifn c25 h
      refine n_aload_n (i := 0) dX12_reckons_20 rfl rfl ?_
      refine p_getr fl_X12_116 (sh_176 _ _) rfl (rR_176_41 _ _) dX12_reckons_21 ?_
      refine n_iload_n (i := 1) dX12_reckons_24 rfl rfl ?_
      obtain ⟨r26, hr26, h⟩ := yb_bind h
      refine p_aald hr26 (sh_217 _ _) (by decide) rfl (rF_217 _ _) dX12_reckons_25 ?_
      refine n_iload_n (i := 2) dX12_reckons_26 rfl rfl ?_
      refine n_iconst (-1 : Int32) dX12_reckons_27 ic_m1 ?_
      obtain ⟨s27, hs27, h⟩ := yb_bind h
      refine p_iast hs27 (shF_217 hr26 _ _) dX12_reckons_28 ?_
      refine n_iinc (vs' := [some (.ref (yb_ad G 176)), some (.int x1), some (.int (x2 + (1 : Int32))), none, none]) dX12_reckons_29 rfl (ii_1 _) (Nat.le_of_ble_eq_true rfl) rfl rfl ?_
      refine n_goto 12 dX12_reckons_32 (by decide) ?_
      exact p_jump (hrc12 (x2 + (1 : Int32)) s27 h) (And.intro rfl (And.intro rfl (And.intro rfl trivial)))
set_option maxHeartbeats 4000000 in
set_option maxRecDepth 20000 in
theorem tl_X12_reckons_12 {G : yb_G} {X : List (FieldType × Nat)} {rc2 : (Int32 → yb_S → Option yb_S)} {x1 : Int32} {out : yb_S} (hrc2 : ∀ (x1' : Int32) (s' : yb_S), rc2 x1' s' = some out → Rn G RX12 cX12_reckons 5 none false (yb_rm 3) (yb_qv X out) 0 0 2 [some (.ref (yb_ad G 176)), some (.int x1'), none, none, none] [] (yb_mk s' X)) {x2 : Int32} {s : yb_S} (h : l_X12_reckons_12 rc2 x1 yb_N x2 s = some out) : Rn G RX12 cX12_reckons 5 none false (yb_rm 3) (yb_qv X out) 0 0 12 [some (.ref (yb_ad G 176)), some (.int x1), some (.int x2), none, none] [] (yb_mk s X) := t_l_X12_reckons_12 hrc2 _ _ _ h
set_option maxHeartbeats 4000000 in
set_option maxRecDepth 20000 in
theorem t_l_X12_reckons_2 {G : yb_G} {X : List (FieldType × Nat)} {out : yb_S} : ∀ (k0 : Nat) (x1 : Int32) (s : yb_S), l_X12_reckons_2 k0 x1 s = some out → Rn G RX12 cX12_reckons 5 none false (yb_rm 3) (yb_qv X out) 0 0 2 [some (.ref (yb_ad G 176)), some (.int x1), none, none, none] [] (yb_mk s X) := by
  intro k0
  induction k0 with
  | zero => intro x1 s h; cases h
  | succ k0 ih =>
    intro x1 s h
    have h : f_X12_reckons_2 (fun x1 s => l_X12_reckons_2 k0 x1 s) x1 s = some out := h
    have hrc2 := ih
    unfold f_X12_reckons_2 at h
    refine n_iload_n (i := 1) dX12_reckons_2 rfl rfl ?_
    refine n_aload_n (i := 0) dX12_reckons_3 rfl rfl ?_
    refine p_geti fl_X12_254 (sh_176 _ _) rfl dX12_reckons_4 ?_
    refine n_icmp_ge 41 dX12_reckons_7 (by decide) (fun c1 => ?_) (fun c1 => ?_)
    · have h := yb_ifp c1 h
      refine n_iconst (0 : Int32) dX12_reckons_41 ic_0 ?_
      refine n_istore_n (i := 1) (vs' := [some (.ref (yb_ad G 176)), some (.int (0 : Int32)), none, none, none]) dX12_reckons_42 rfl (Nat.le_of_ble_eq_true rfl) rfl rfl ?_
      exact p_jump (tl_X12_reckons_43 h) (And.intro rfl (And.intro rfl trivial))
    · have h := yb_ifn c1 h
      refine n_iconst (0 : Int32) dX12_reckons_10 ic_0 ?_
      refine n_istore_n (i := 2) (vs' := [some (.ref (yb_ad G 176)), some (.int x1), some (.int (0 : Int32)), none, none]) dX12_reckons_11 rfl (Nat.le_of_ble_eq_true rfl) rfl rfl ?_
      exact p_jump (tl_X12_reckons_12 hrc2 h) (And.intro rfl (And.intro rfl (And.intro rfl trivial)))
set_option maxHeartbeats 4000000 in
set_option maxRecDepth 20000 in
theorem tl_X12_reckons_2 {G : yb_G} {X : List (FieldType × Nat)} {out : yb_S} {x1 : Int32} {s : yb_S} (h : l_X12_reckons_2 yb_N x1 s = some out) : Rn G RX12 cX12_reckons 5 none false (yb_rm 3) (yb_qv X out) 0 0 2 [some (.ref (yb_ad G 176)), some (.int x1), none, none, none] [] (yb_mk s X) := t_l_X12_reckons_2 _ _ _ h
set_option maxHeartbeats 4000000 in
set_option maxRecDepth 20000 in
theorem t_X12_reckons {G : yb_G} {X : List (FieldType × Nat)} {s : yb_S} {out : yb_S} (h : f_X12_reckons s = some out) : Ct G yX12_reckons cX12_reckons 5 none (yb_rm 3) [.ref (yb_ad G 176)] (yb_mk s X) (yb_qv X out) := by
  refine Ct.of (own := RX12) (ini := false) (vs := [some (.ref (yb_ad G 176)), none, none, none, none]) ⟨rfl, by decide +kernel⟩ (fun h => by cases h) (Nat.le_of_ble_eq_true rfl) rfl ?_
  unfold f_X12_reckons at h
  refine n_iconst (0 : Int32) dX12_reckons_0 ic_0 ?_
  refine n_istore_n (i := 1) (vs' := [some (.ref (yb_ad G 176)), some (.int (0 : Int32)), none, none, none]) dX12_reckons_1 rfl (Nat.le_of_ble_eq_true rfl) rfl rfl ?_
  exact p_jump (tl_X12_reckons_2 h) (And.intro rfl (And.intro rfl trivial))
set_option maxHeartbeats 4000000 in
set_option maxRecDepth 20000 in
theorem tj_X12_surely_11 {G : yb_G} {X : List (FieldType × Nat)} {x1 : Int32} {x2 : Int32} {s : yb_S} {out : (Int32 × yb_S)} (h : j_X12_surely_11 x1 x2 s = some out) : Rn G RX12 cX12_surely 3 (Option.some .int) false (yb_rm 4) (yb_qi X out.2 out.1) 0 0 11 [some (.ref (yb_ad G 176)), some (.int x1), some (.int x2)] [] (yb_mk s X) := by
  unfold j_X12_surely_11 at h
  refine n_iload_n (i := 1) dX12_surely_11 rfl rfl ?_
  refine n_iload_n (i := 2) dX12_surely_12 rfl rfl ?_
  refine n_icmp_ne 20 dX12_surely_13 (by decide) (fun c2 => ?_) (fun c2 => ?_)
  · have h := yb_ifn c2 h
    refine n_aload_n (i := 0) dX12_surely_20 rfl rfl ?_
    refine p_getr fl_X12_116 (sh_176 _ _) rfl (rR_176_41 _ _) dX12_surely_21 ?_
    refine n_iload_n (i := 1) dX12_surely_24 rfl rfl ?_
    obtain ⟨r3, hr3, h⟩ := yb_bind h
    refine p_aald hr3 (sh_217 _ _) (by decide) rfl (rF_217 _ _) dX12_surely_25 ?_
    refine n_iload_n (i := 2) dX12_surely_26 rfl rfl ?_
    obtain ⟨v4, hv4, h⟩ := yb_bind h
    refine p_iald hv4 (shF_217 hr3 _ _) dX12_surely_27 ?_
    cases h
    exact n_iret dX12_surely_28 rfl rfl (Nat.le_refl _) (Nat.le_refl _) ⟨rfl, rfl⟩
  · have h := yb_ifp c2 h
    refine n_iconst (-1 : Int32) dX12_surely_16 ic_m1 ?_
    refine n_goto 28 dX12_surely_17 (by decide) ?_
    cases h
    exact n_iret dX12_surely_28 rfl rfl (Nat.le_refl _) (Nat.le_refl _) ⟨rfl, rfl⟩
set_option maxHeartbeats 4000000 in
set_option maxRecDepth 20000 in
theorem t_X12_surely {G : yb_G} {X : List (FieldType × Nat)} {a1 : Int32} {a2 : Int32} {s : yb_S} {out : (Int32 × yb_S)} (h : f_X12_surely a1 a2 s = some out) : Ct G yX12_surely cX12_surely 3 (Option.some .int) (yb_rm 4) [.ref (yb_ad G 176), .int a1, .int a2] (yb_mk s X) (yb_qi X out.2 out.1) := by
  refine Ct.of (own := RX12) (ini := false) (vs := [some (.ref (yb_ad G 176)), some (.int a1), some (.int a2)]) ⟨rfl, by decide +kernel⟩ (fun h => by cases h) (Nat.le_of_ble_eq_true rfl) rfl ?_
  unfold f_X12_surely at h
  refine n_aload_n (i := 0) dX12_surely_0 rfl rfl ?_
  refine p_geti fl_X12_278 (sh_176 _ _) rfl dX12_surely_1 ?_
  refine n_if_ne 11 dX12_surely_4 (by decide) (fun c1 => ?_) (fun c1 => ?_)
  · have h := yb_ifn c1 h
    exact p_jump (tj_X12_surely_11 h) (And.intro rfl (And.intro rfl (And.intro rfl trivial)))
  · have h := yb_ifp c1 h
    refine n_aload_n (i := 0) dX12_surely_7 rfl rfl ?_
    obtain ⟨q5, hq5, h⟩ := yb_bind h
    refine p_callVv (As := []) (t_X12_reckons hq5) cv_X12_334 (sh_176 _ _) rfl rfl (Nat.le_of_ble_eq_true rfl) dX12_surely_8 (yb_rok (Nat.le_of_ble_eq_true rfl) (by decide)) ⟨rfl, rfl⟩ ⟨Nat.le_refl _, Nat.le_refl _⟩ (fun k6 => ?_)
    exact p_jump (tj_X12_surely_11 h) (And.intro rfl (And.intro rfl (And.intro rfl trivial)))
set_option maxHeartbeats 4000000 in
set_option maxRecDepth 20000 in
theorem t_X12_areKin {G : yb_G} {X : List (FieldType × Nat)} {a1 : Int32} {a2 : Int32} {s : yb_S} {out : (Int32 × yb_S)} (h : f_X12_areKin a1 a2 s = some out) : Ct G yX12_areKin cX12_areKin 3 (Option.some .boolean) (yb_rm 5) [.ref (yb_ad G 176), .int a1, .int a2] (yb_mk s X) (yb_qi X out.2 out.1) := by
  refine Ct.of (own := RX12) (ini := false) (vs := [some (.ref (yb_ad G 176)), some (.int a1), some (.int a2)]) ⟨rfl, by decide +kernel⟩ (fun h => by cases h) (Nat.le_of_ble_eq_true rfl) rfl ?_
  unfold f_X12_areKin at h
  refine n_aload_n (i := 0) dX12_areKin_0 rfl rfl ?_
  refine n_iload_n (i := 1) dX12_areKin_1 rfl rfl ?_
  refine n_iload_n (i := 2) dX12_areKin_2 rfl rfl ?_
  obtain ⟨q1, hq1, h⟩ := yb_bind h
  refine p_callVi (As := [.int a1, .int a2]) (t_X12_surely hq1) cv_X12_337 (sh_176 _ _) rfl rfl (Nat.le_of_ble_eq_true rfl) dX12_areKin_3 (yb_rok (Nat.le_of_ble_eq_true rfl) (by decide)) ⟨rfl, rfl⟩ ⟨Nat.le_refl _, Nat.le_refl _⟩ (fun k2 => ?_)
  refine n_iconst (-1 : Int32) dX12_areKin_6 ic_m1 ?_
  refine n_icmp_ne 20 dX12_areKin_7 (by decide) (fun c3 => ?_) (fun c3 => ?_)
  · have h := yb_ifn c3 h
    refine n_iconst (1 : Int32) dX12_areKin_20 ic_1 ?_
    refine n_goto 25 dX12_areKin_21 (by decide) ?_
    cases h
    exact n_iret dX12_areKin_25 rfl (by decide) (Nat.le_refl _) (Nat.le_refl _) ⟨rfl, rfl⟩
  · have h := yb_ifp c3 h
    refine n_aload_n (i := 0) dX12_areKin_10 rfl rfl ?_
    refine n_iload_n (i := 2) dX12_areKin_11 rfl rfl ?_
    refine n_iload_n (i := 1) dX12_areKin_12 rfl rfl ?_
    obtain ⟨q4, hq4, h⟩ := yb_bind h
    refine p_callVi (As := [.int a2, .int a1]) (t_X12_surely hq4) cv_X12_337 (sh_176 _ _) rfl rfl (Nat.le_of_ble_eq_true rfl) dX12_areKin_13 (yb_rok (Nat.le_of_ble_eq_true rfl) (by decide)) ⟨rfl, rfl⟩ ⟨Nat.le_refl _, Nat.le_refl _⟩ (fun k5 => ?_)
    refine n_iconst (-1 : Int32) dX12_areKin_16 ic_m1 ?_
    refine n_icmp_eq 24 dX12_areKin_17 (by decide) (fun c6 => ?_) (fun c6 => ?_)
    · have h := yb_ifp c6 h
      refine n_iconst (0 : Int32) dX12_areKin_24 ic_0 ?_
      cases h
      exact n_iret dX12_areKin_25 rfl (by decide) (Nat.le_refl _) (Nat.le_refl _) ⟨rfl, rfl⟩
    · have h := yb_ifn c6 h
      refine n_iconst (1 : Int32) dX12_areKin_20 ic_1 ?_
      refine n_goto 25 dX12_areKin_21 (by decide) ?_
      cases h
      exact n_iret dX12_areKin_25 rfl (by decide) (Nat.le_refl _) (Nat.le_refl _) ⟨rfl, rfl⟩
set_option maxHeartbeats 4000000 in
set_option maxRecDepth 20000 in
theorem tj_X12_headsThere_33 {G : yb_G} {X : List (FieldType × Nat)} {rc4 : (Int32 → Int32 → Option Int32)} {x2 : Int32} {y0 : Int32} {y1 : Int32} {s : yb_S} {out : Int32} (hrc4 : ∀ (x1' : Int32) (x2' : Int32), rc4 x1' x2' = some out → Rn G RX12 cX12_headsThere 3 (Option.some .int) false (yb_rm 1) (yb_qi X s out) 0 0 4 [some (.ref (yb_ad G 176)), some (.int x1'), some (.int x2')] [] (yb_mk s X)) (h : j_X12_headsThere_33 rc4 x2 y0 y1 s = some out) : Rn G RX12 cX12_headsThere 3 (Option.some .int) false (yb_rm 1) (yb_qi X s out) 0 0 33 [some (.ref (yb_ad G 176)), none, some (.int x2)] [.int y0, .int y1] (yb_mk s X) := by
  unfold j_X12_headsThere_33 at h
  refine n_iadd dX12_headsThere_33 ?_
  refine n_istore_n (i := 1) (vs' := [some (.ref (yb_ad G 176)), some (.int (y1 + y0)), some (.int x2)]) dX12_headsThere_34 rfl (Nat.le_of_ble_eq_true rfl) rfl rfl ?_
  refine n_iinc (vs' := [some (.ref (yb_ad G 176)), some (.int (y1 + y0)), some (.int (x2 + (1 : Int32)))]) dX12_headsThere_35 rfl (ii_1 _) (Nat.le_of_ble_eq_true rfl) rfl rfl ?_
  refine n_goto 4 dX12_headsThere_38 (by decide) ?_
  exact p_jump (hrc4 (y1 + y0) (x2 + (1 : Int32)) h) (And.intro rfl (And.intro rfl (And.intro rfl trivial)))
set_option maxHeartbeats 4000000 in
set_option maxRecDepth 20000 in
theorem t_l_X12_headsThere_4 {G : yb_G} {X : List (FieldType × Nat)} {s : yb_S} {out : Int32} : ∀ (k0 : Nat) (x1 : Int32) (x2 : Int32), l_X12_headsThere_4 s k0 x1 x2 = some out → Rn G RX12 cX12_headsThere 3 (Option.some .int) false (yb_rm 1) (yb_qi X s out) 0 0 4 [some (.ref (yb_ad G 176)), some (.int x1), some (.int x2)] [] (yb_mk s X) := by
  intro k0
  induction k0 with
  | zero => intro x1 x2 h; cases h
  | succ k0 ih =>
    intro x1 x2 h
    have h : f_X12_headsThere_4 (fun x1 x2 => l_X12_headsThere_4 s k0 x1 x2) s x1 x2 = some out := h
    have hrc4 := ih
    unfold f_X12_headsThere_4 at h
    refine n_iload_n (i := 2) dX12_headsThere_4 rfl rfl ?_
    refine n_aload_n (i := 0) dX12_headsThere_5 rfl rfl ?_
    refine p_geti fl_X12_254 (sh_176 _ _) rfl dX12_headsThere_6 ?_
    refine n_icmp_ge 41 dX12_headsThere_9 (by decide) (fun c1 => ?_) (fun c1 => ?_)
    · have h := yb_ifp c1 h
      refine n_iload_n (i := 1) dX12_headsThere_41 rfl rfl ?_
      cases h
      exact n_iret dX12_headsThere_42 rfl rfl (Nat.le_refl _) (Nat.le_refl _) ⟨rfl, rfl⟩
    · have h := yb_ifn c1 h
      refine n_iload_n (i := 1) dX12_headsThere_12 rfl rfl ?_
      refine n_aload_n (i := 0) dX12_headsThere_13 rfl rfl ?_
      refine p_getr fl_X12_66 (sh_176 _ _) rfl (rR_176_22 _ _) dX12_headsThere_14 ?_
      refine n_iload_n (i := 2) dX12_headsThere_17 rfl rfl ?_
      obtain ⟨v2, hv2, h⟩ := yb_bind h
      refine p_iald hv2 (sh_195 _ _) dX12_headsThere_18 ?_
      refine n_iconst (2 : Int32) dX12_headsThere_19 ic_2 ?_
      refine n_icmp_ne 27 dX12_headsThere_20 (by decide) (fun c3 => ?_) (fun c3 => ?_)
      · have h := yb_ifn c3 h
        refine n_aload_n (i := 0) dX12_headsThere_27 rfl rfl ?_
        refine p_getr fl_X12_48 (sh_176 _ _) rfl (rR_176_16 _ _) dX12_headsThere_28 ?_
        refine n_iload_n (i := 2) dX12_headsThere_31 rfl rfl ?_
        obtain ⟨v4, hv4, h⟩ := yb_bind h
        refine p_iald hv4 (sh_189 _ _) dX12_headsThere_32 ?_
        exact p_jump (tj_X12_headsThere_33 hrc4 h) (And.intro rfl (And.intro rfl trivial))
      · have h := yb_ifp c3 h
        refine n_iconst (0 : Int32) dX12_headsThere_23 ic_0 ?_
        refine n_goto 33 dX12_headsThere_24 (by decide) ?_
        exact p_jump (tj_X12_headsThere_33 hrc4 h) (And.intro rfl (And.intro rfl trivial))
set_option maxHeartbeats 4000000 in
set_option maxRecDepth 20000 in
theorem tl_X12_headsThere_4 {G : yb_G} {X : List (FieldType × Nat)} {s : yb_S} {out : Int32} {x1 : Int32} {x2 : Int32} (h : l_X12_headsThere_4 s yb_N x1 x2 = some out) : Rn G RX12 cX12_headsThere 3 (Option.some .int) false (yb_rm 1) (yb_qi X s out) 0 0 4 [some (.ref (yb_ad G 176)), some (.int x1), some (.int x2)] [] (yb_mk s X) := t_l_X12_headsThere_4 _ _ _ h
set_option maxHeartbeats 4000000 in
set_option maxRecDepth 20000 in
theorem t_X12_headsThere {G : yb_G} {X : List (FieldType × Nat)} {s : yb_S} {out : Int32} (h : f_X12_headsThere s = some out) : Ct G yX12_headsThere cX12_headsThere 3 (Option.some .int) (yb_rm 1) [.ref (yb_ad G 176)] (yb_mk s X) (yb_qi X s out) := by
  refine Ct.of (own := RX12) (ini := false) (vs := [some (.ref (yb_ad G 176)), none, none]) ⟨rfl, by decide +kernel⟩ (fun h => by cases h) (Nat.le_of_ble_eq_true rfl) rfl ?_
  unfold f_X12_headsThere at h
  refine n_iconst (0 : Int32) dX12_headsThere_0 ic_0 ?_
  refine n_istore_n (i := 1) (vs' := [some (.ref (yb_ad G 176)), some (.int (0 : Int32)), none]) dX12_headsThere_1 rfl (Nat.le_of_ble_eq_true rfl) rfl rfl ?_
  refine n_iconst (0 : Int32) dX12_headsThere_2 ic_0 ?_
  refine n_istore_n (i := 2) (vs' := [some (.ref (yb_ad G 176)), some (.int (0 : Int32)), some (.int (0 : Int32))]) dX12_headsThere_3 rfl (Nat.le_of_ble_eq_true rfl) rfl rfl ?_
  exact p_jump (tl_X12_headsThere_4 h) (And.intro rfl (And.intro rfl (And.intro rfl trivial)))
set_option maxHeartbeats 4000000 in
set_option maxRecDepth 20000 in
theorem t_l_X12_clears_2 {G : yb_G} {X : List (FieldType × Nat)} {out : yb_S} : ∀ (k0 : Nat) (x1 : Int32) (s : yb_S), l_X12_clears_2 k0 x1 s = some out → Rn G RX12 cX12_clears 2 none false (yb_rm 2) (yb_qv X out) 0 0 2 [some (.ref (yb_ad G 176)), some (.int x1)] [] (yb_mk s X) := by
  intro k0
  induction k0 with
  | zero => intro x1 s h; cases h
  | succ k0 ih =>
    intro x1 s h
    have h : f_X12_clears_2 (fun x1 s => l_X12_clears_2 k0 x1 s) x1 s = some out := h
    have hrc2 := ih
    unfold f_X12_clears_2 at h
    refine n_iload_n (i := 1) dX12_clears_2 rfl rfl ?_
    refine n_bipush (18 : Int32) dX12_clears_3 bp_18 ?_
    refine n_icmp_ge 21 dX12_clears_5 (by decide) (fun c1 => ?_) (fun c1 => ?_)
    · have h := yb_ifp c1 h
      refine n_aload_n (i := 0) dX12_clears_21 rfl rfl ?_
      refine p_getr fl_X12_188 (sh_176 _ _) rfl (rR_176_59 _ _) dX12_clears_22 ?_
      refine n_bipush (14 : Int32) dX12_clears_25 bp_14 ?_
      refine n_aload_n (i := 0) dX12_clears_27 rfl rfl ?_
      obtain ⟨q2, hq2, h⟩ := yb_bind h
      refine p_callVi (As := []) (t_X12_headsThere hq2) cv_X12_461 (sh_176 _ _) rfl rfl (Nat.le_of_ble_eq_true rfl) dX12_clears_28 (yb_rok (Nat.le_of_ble_eq_true rfl) (by decide)) ⟨rfl, rfl⟩ ⟨Nat.le_refl _, Nat.le_refl _⟩ (fun k3 => ?_)
      obtain ⟨s4, hs4, h⟩ := yb_bind h
      refine p_iast hs4 (sh_337 _ _) dX12_clears_31 ?_
      refine n_aload_n (i := 0) dX12_clears_32 rfl rfl ?_
      refine p_getr fl_X12_188 (sh_176 _ _) rfl (rR_176_59 _ _) dX12_clears_33 ?_
      refine n_bipush (16 : Int32) dX12_clears_36 bp_16 ?_
      refine n_aload_n (i := 0) dX12_clears_38 rfl rfl ?_
      refine p_geti fl_X12_275 (sh_176 _ _) rfl dX12_clears_39 ?_
      obtain ⟨s5, hs5, h⟩ := yb_bind h
      refine p_iast hs5 (sh_337 _ _) dX12_clears_42 ?_
      cases h
      exact n_vret dX12_clears_43 rfl (Nat.le_refl _) (Nat.le_refl _) ⟨rfl, rfl⟩
    · have h := yb_ifn c1 h
      refine n_aload_n (i := 0) dX12_clears_8 rfl rfl ?_
      refine p_getr fl_X12_188 (sh_176 _ _) rfl (rR_176_59 _ _) dX12_clears_9 ?_
      refine n_iload_n (i := 1) dX12_clears_12 rfl rfl ?_
      refine n_iconst (0 : Int32) dX12_clears_13 ic_0 ?_
      obtain ⟨s6, hs6, h⟩ := yb_bind h
      refine p_iast hs6 (sh_337 _ _) dX12_clears_14 ?_
      refine n_iinc (vs' := [some (.ref (yb_ad G 176)), some (.int (x1 + (1 : Int32)))]) dX12_clears_15 rfl (ii_1 _) (Nat.le_of_ble_eq_true rfl) rfl rfl ?_
      refine n_goto 2 dX12_clears_18 (by decide) ?_
      exact p_jump (hrc2 (x1 + (1 : Int32)) s6 h) (And.intro rfl (And.intro rfl trivial))
set_option maxHeartbeats 4000000 in
set_option maxRecDepth 20000 in
theorem tl_X12_clears_2 {G : yb_G} {X : List (FieldType × Nat)} {out : yb_S} {x1 : Int32} {s : yb_S} (h : l_X12_clears_2 yb_N x1 s = some out) : Rn G RX12 cX12_clears 2 none false (yb_rm 2) (yb_qv X out) 0 0 2 [some (.ref (yb_ad G 176)), some (.int x1)] [] (yb_mk s X) := t_l_X12_clears_2 _ _ _ h
set_option maxHeartbeats 4000000 in
set_option maxRecDepth 20000 in
theorem t_X12_clears {G : yb_G} {X : List (FieldType × Nat)} {s : yb_S} {out : yb_S} (h : f_X12_clears s = some out) : Ct G yX12_clears cX12_clears 2 none (yb_rm 2) [.ref (yb_ad G 176)] (yb_mk s X) (yb_qv X out) := by
  refine Ct.of (own := RX12) (ini := false) (vs := [some (.ref (yb_ad G 176)), none]) ⟨rfl, by decide +kernel⟩ (fun h => by cases h) (Nat.le_of_ble_eq_true rfl) rfl ?_
  unfold f_X12_clears at h
  refine n_iconst (0 : Int32) dX12_clears_0 ic_0 ?_
  refine n_istore_n (i := 1) (vs' := [some (.ref (yb_ad G 176)), some (.int (0 : Int32))]) dX12_clears_1 rfl (Nat.le_of_ble_eq_true rfl) rfl rfl ?_
  exact p_jump (tl_X12_clears_2 h) (And.intro rfl (And.intro rfl trivial))
set_option maxHeartbeats 4000000 in
set_option maxRecDepth 20000 in
theorem t_X12_asksOf {G : yb_G} {X : List (FieldType × Nat)} {a1 : Int32} {s : yb_S} {out : yb_S} (h : f_X12_asksOf a1 s = some out) : Ct G yX12_asksOf cX12_asksOf 2 none (yb_rm 3) [.ref (yb_ad G 176), .int a1] (yb_mk s X) (yb_qv X out) := by
  refine Ct.of (own := RX12) (ini := false) (vs := [some (.ref (yb_ad G 176)), some (.int a1)]) ⟨rfl, by decide +kernel⟩ (fun h => by cases h) (Nat.le_of_ble_eq_true rfl) rfl ?_
  unfold f_X12_asksOf at h
  refine n_aload_n (i := 0) dX12_asksOf_0 rfl rfl ?_
  obtain ⟨q1, hq1, h⟩ := yb_bind h
  refine p_callVv (As := []) (t_X12_clears hq1) cv_X12_464 (sh_176 _ _) rfl rfl (Nat.le_of_ble_eq_true rfl) dX12_asksOf_1 (yb_rok (Nat.le_of_ble_eq_true rfl) (by decide)) ⟨rfl, rfl⟩ ⟨Nat.le_refl _, Nat.le_refl _⟩ (fun k2 => ?_)
  refine n_aload_n (i := 0) dX12_asksOf_4 rfl rfl ?_
  refine p_getr fl_X12_188 (sh_176 _ _) rfl (rR_176_59 _ _) dX12_asksOf_5 ?_
  refine n_iconst (0 : Int32) dX12_asksOf_8 ic_0 ?_
  refine n_aload_n (i := 0) dX12_asksOf_9 rfl rfl ?_
  refine p_getr fl_X12_48 (sh_176 _ _) rfl (rR_176_16 _ _) dX12_asksOf_10 ?_
  refine n_iload_n (i := 1) dX12_asksOf_13 rfl rfl ?_
  obtain ⟨v3, hv3, h⟩ := yb_bind h
  refine p_iald hv3 (sh_189 _ _) dX12_asksOf_14 ?_
  obtain ⟨s4, hs4, h⟩ := yb_bind h
  refine p_iast hs4 (sh_337 _ _) dX12_asksOf_15 ?_
  refine n_aload_n (i := 0) dX12_asksOf_16 rfl rfl ?_
  refine p_getr fl_X12_188 (sh_176 _ _) rfl (rR_176_59 _ _) dX12_asksOf_17 ?_
  refine n_iconst (1 : Int32) dX12_asksOf_20 ic_1 ?_
  refine n_aload_n (i := 0) dX12_asksOf_21 rfl rfl ?_
  refine p_getr fl_X12_51 (sh_176 _ _) rfl (rR_176_17 _ _) dX12_asksOf_22 ?_
  refine n_iload_n (i := 1) dX12_asksOf_25 rfl rfl ?_
  obtain ⟨v5, hv5, h⟩ := yb_bind h
  refine p_iald hv5 (sh_190 _ _) dX12_asksOf_26 ?_
  obtain ⟨s6, hs6, h⟩ := yb_bind h
  refine p_iast hs6 (sh_337 _ _) dX12_asksOf_27 ?_
  refine n_aload_n (i := 0) dX12_asksOf_28 rfl rfl ?_
  refine p_getr fl_X12_188 (sh_176 _ _) rfl (rR_176_59 _ _) dX12_asksOf_29 ?_
  refine n_iconst (2 : Int32) dX12_asksOf_32 ic_2 ?_
  refine n_aload_n (i := 0) dX12_asksOf_33 rfl rfl ?_
  refine p_getr fl_X12_54 (sh_176 _ _) rfl (rR_176_18 _ _) dX12_asksOf_34 ?_
  refine n_iload_n (i := 1) dX12_asksOf_37 rfl rfl ?_
  obtain ⟨v7, hv7, h⟩ := yb_bind h
  refine p_iald hv7 (sh_191 _ _) dX12_asksOf_38 ?_
  obtain ⟨s8, hs8, h⟩ := yb_bind h
  refine p_iast hs8 (sh_337 _ _) dX12_asksOf_39 ?_
  refine n_aload_n (i := 0) dX12_asksOf_40 rfl rfl ?_
  refine p_getr fl_X12_188 (sh_176 _ _) rfl (rR_176_59 _ _) dX12_asksOf_41 ?_
  refine n_iconst (3 : Int32) dX12_asksOf_44 ic_3 ?_
  refine n_aload_n (i := 0) dX12_asksOf_45 rfl rfl ?_
  refine p_getr fl_X12_57 (sh_176 _ _) rfl (rR_176_19 _ _) dX12_asksOf_46 ?_
  refine n_iload_n (i := 1) dX12_asksOf_49 rfl rfl ?_
  obtain ⟨v9, hv9, h⟩ := yb_bind h
  refine p_iald hv9 (sh_192 _ _) dX12_asksOf_50 ?_
  obtain ⟨s10, hs10, h⟩ := yb_bind h
  refine p_iast hs10 (sh_337 _ _) dX12_asksOf_51 ?_
  refine n_aload_n (i := 0) dX12_asksOf_52 rfl rfl ?_
  refine p_getr fl_X12_188 (sh_176 _ _) rfl (rR_176_59 _ _) dX12_asksOf_53 ?_
  refine n_iconst (4 : Int32) dX12_asksOf_56 ic_4 ?_
  refine n_aload_n (i := 0) dX12_asksOf_57 rfl rfl ?_
  refine p_getr fl_X12_60 (sh_176 _ _) rfl (rR_176_20 _ _) dX12_asksOf_58 ?_
  refine n_iload_n (i := 1) dX12_asksOf_61 rfl rfl ?_
  obtain ⟨v11, hv11, h⟩ := yb_bind h
  refine p_iald hv11 (sh_193 _ _) dX12_asksOf_62 ?_
  obtain ⟨s12, hs12, h⟩ := yb_bind h
  refine p_iast hs12 (sh_337 _ _) dX12_asksOf_63 ?_
  refine n_aload_n (i := 0) dX12_asksOf_64 rfl rfl ?_
  refine p_getr fl_X12_188 (sh_176 _ _) rfl (rR_176_59 _ _) dX12_asksOf_65 ?_
  refine n_iconst (5 : Int32) dX12_asksOf_68 ic_5 ?_
  refine n_aload_n (i := 0) dX12_asksOf_69 rfl rfl ?_
  refine p_getr fl_X12_63 (sh_176 _ _) rfl (rR_176_21 _ _) dX12_asksOf_70 ?_
  refine n_iload_n (i := 1) dX12_asksOf_73 rfl rfl ?_
  obtain ⟨v13, hv13, h⟩ := yb_bind h
  refine p_iald hv13 (sh_194 _ _) dX12_asksOf_74 ?_
  obtain ⟨s14, hs14, h⟩ := yb_bind h
  refine p_iast hs14 (sh_337 _ _) dX12_asksOf_75 ?_
  refine n_aload_n (i := 0) dX12_asksOf_76 rfl rfl ?_
  refine p_getr fl_X12_188 (sh_176 _ _) rfl (rR_176_59 _ _) dX12_asksOf_77 ?_
  refine n_bipush (6 : Int32) dX12_asksOf_80 bp_6 ?_
  refine n_aload_n (i := 0) dX12_asksOf_82 rfl rfl ?_
  refine p_getr fl_X12_72 (sh_176 _ _) rfl (rR_176_24 _ _) dX12_asksOf_83 ?_
  refine n_iload_n (i := 1) dX12_asksOf_86 rfl rfl ?_
  obtain ⟨v15, hv15, h⟩ := yb_bind h
  refine p_iald hv15 (sh_197 _ _) dX12_asksOf_87 ?_
  obtain ⟨s16, hs16, h⟩ := yb_bind h
  refine p_iast hs16 (sh_337 _ _) dX12_asksOf_88 ?_
  cases h
  exact n_vret dX12_asksOf_89 rfl (Nat.le_refl _) (Nat.le_refl _) ⟨rfl, rfl⟩
set_option maxHeartbeats 4000000 in
set_option maxRecDepth 20000 in
theorem tj_X12_sheetFor_62 {G : yb_G} {X : List (FieldType × Nat)} {rc5 : (Int32 → Int32 → Option Int32)} {x1 : Int32} {x2 : Int32} {x3 : Int32} {x4 : Int32} {s : yb_S} {out : Int32} (hrc5 : ∀ (x3' : Int32) (x4' : Int32), rc5 x3' x4' = some out → Rn G RX12 cX12_sheetFor 5 (Option.some .int) false (yb_rm 1) (yb_qi X s out) 0 0 5 [some (.ref (yb_ad G 176)), some (.int x1), some (.int x2), some (.int x3'), some (.int x4')] [] (yb_mk s X)) (h : j_X12_sheetFor_62 rc5 x1 x2 x3 x4 s = some out) : Rn G RX12 cX12_sheetFor 5 (Option.some .int) false (yb_rm 1) (yb_qi X s out) 0 0 62 [some (.ref (yb_ad G 176)), some (.int x1), some (.int x2), some (.int x3), some (.int x4)] [] (yb_mk s X) := by
  unfold j_X12_sheetFor_62 at h
  refine n_iinc (vs' := [some (.ref (yb_ad G 176)), some (.int x1), some (.int x2), some (.int x3), some (.int (x4 + (1 : Int32)))]) dX12_sheetFor_62 rfl (ii_1 _) (Nat.le_of_ble_eq_true rfl) rfl rfl ?_
  refine n_goto 5 dX12_sheetFor_65 (by decide) ?_
  exact p_jump (hrc5 x3 (x4 + (1 : Int32)) h) (And.intro rfl (And.intro rfl (And.intro rfl (And.intro rfl (And.intro rfl trivial)))))
set_option maxHeartbeats 4000000 in
set_option maxRecDepth 20000 in
theorem tj_X12_sheetFor_47 {G : yb_G} {X : List (FieldType × Nat)} {rc5 : (Int32 → Int32 → Option Int32)} {x1 : Int32} {x2 : Int32} {x3 : Int32} {x4 : Int32} {s : yb_S} {out : Int32} (hrc5 : ∀ (x3' : Int32) (x4' : Int32), rc5 x3' x4' = some out → Rn G RX12 cX12_sheetFor 5 (Option.some .int) false (yb_rm 1) (yb_qi X s out) 0 0 5 [some (.ref (yb_ad G 176)), some (.int x1), some (.int x2), some (.int x3'), some (.int x4')] [] (yb_mk s X)) (h : j_X12_sheetFor_47 rc5 x1 x2 x3 x4 s = some out) : Rn G RX12 cX12_sheetFor 5 (Option.some .int) false (yb_rm 1) (yb_qi X s out) 0 0 47 [some (.ref (yb_ad G 176)), some (.int x1), some (.int x2), some (.int x3), some (.int x4)] [] (yb_mk s X) := by
  unfold j_X12_sheetFor_47 at h
  refine n_aload_n (i := 0) dX12_sheetFor_47 rfl rfl ?_
  refine p_getr fl_X12_128 (sh_176 _ _) rfl (rR_176_51 _ _) dX12_sheetFor_48 ?_
  refine n_iload dX12_sheetFor_51 rfl ?_
  obtain ⟨r6, hr6, h⟩ := yb_bind h
  refine p_aald hr6 (sh_321 _ _) (by decide) rfl (rF_321 _ _) dX12_sheetFor_53 ?_
  refine n_iload_n (i := 1) dX12_sheetFor_54 rfl rfl ?_
  obtain ⟨v7, hv7, h⟩ := yb_bind h
  refine p_iald hv7 (shF_321 hr6 _ _) dX12_sheetFor_55 ?_
  refine n_if_le 62 dX12_sheetFor_56 (by decide) (fun c8 => ?_) (fun c8 => ?_)
  · have h := yb_ifp c8 h
    exact p_jump (tj_X12_sheetFor_62 hrc5 h) (And.intro rfl (And.intro rfl (And.intro rfl (And.intro rfl (And.intro rfl trivial)))))
  · have h := yb_ifn c8 h
    refine n_iload dX12_sheetFor_59 rfl ?_
    refine n_istore_n (i := 3) (vs' := [some (.ref (yb_ad G 176)), some (.int x1), some (.int x2), some (.int x4), some (.int x4)]) dX12_sheetFor_61 rfl (Nat.le_of_ble_eq_true rfl) rfl rfl ?_
    exact p_jump (tj_X12_sheetFor_62 hrc5 h) (And.intro rfl (And.intro rfl (And.intro rfl (And.intro rfl (And.intro rfl trivial)))))
set_option maxHeartbeats 4000000 in
set_option maxRecDepth 20000 in
theorem t_l_X12_sheetFor_5 {G : yb_G} {X : List (FieldType × Nat)} {x1 : Int32} {x2 : Int32} {s : yb_S} {out : Int32} : ∀ (k0 : Nat) (x3 : Int32) (x4 : Int32), l_X12_sheetFor_5 x1 x2 s k0 x3 x4 = some out → Rn G RX12 cX12_sheetFor 5 (Option.some .int) false (yb_rm 1) (yb_qi X s out) 0 0 5 [some (.ref (yb_ad G 176)), some (.int x1), some (.int x2), some (.int x3), some (.int x4)] [] (yb_mk s X) := by
  intro k0
  induction k0 with
  | zero => intro x3 x4 h; cases h
  | succ k0 ih =>
    intro x3 x4 h
    have h : f_X12_sheetFor_5 (fun x3 x4 => l_X12_sheetFor_5 x1 x2 s k0 x3 x4) x1 x2 s x3 x4 = some out := h
    have hrc5 := ih
    unfold f_X12_sheetFor_5 at h
    refine n_iload dX12_sheetFor_5 rfl ?_
    refine n_aload_n (i := 0) dX12_sheetFor_7 rfl rfl ?_
    refine p_geti fl_X12_440 (sh_176 _ _) rfl dX12_sheetFor_8 ?_
    refine n_icmp_ge 68 dX12_sheetFor_11 (by decide) (fun c1 => ?_) (fun c1 => ?_)
    · have h := yb_ifp c1 h
      refine n_iload_n (i := 3) dX12_sheetFor_68 rfl rfl ?_
      cases h
      exact n_iret dX12_sheetFor_69 rfl rfl (Nat.le_refl _) (Nat.le_refl _) ⟨rfl, rfl⟩
    · have h := yb_ifn c1 h
      refine n_aload_n (i := 0) dX12_sheetFor_14 rfl rfl ?_
      refine p_getr fl_X12_131 (sh_176 _ _) rfl (rR_176_52 _ _) dX12_sheetFor_15 ?_
      refine n_iload dX12_sheetFor_18 rfl ?_
      obtain ⟨v2, hv2, h⟩ := yb_bind h
      refine p_iald hv2 (sh_333 _ _) dX12_sheetFor_20 ?_
      refine n_iload_n (i := 2) dX12_sheetFor_21 rfl rfl ?_
      refine n_icmp_gt 62 dX12_sheetFor_22 (by decide) (fun c3 => ?_) (fun c3 => ?_)
      · have h := yb_ifp c3 h
        exact p_jump (tj_X12_sheetFor_62 hrc5 h) (And.intro rfl (And.intro rfl (And.intro rfl (And.intro rfl (And.intro rfl trivial)))))
      · have h := yb_ifn c3 h
        refine n_aload_n (i := 0) dX12_sheetFor_25 rfl rfl ?_
        refine p_getr fl_X12_134 (sh_176 _ _) rfl (rR_176_53 _ _) dX12_sheetFor_26 ?_
        refine n_iload dX12_sheetFor_29 rfl ?_
        obtain ⟨v4, hv4, h⟩ := yb_bind h
        refine p_iald hv4 (sh_334 _ _) dX12_sheetFor_31 ?_
        refine n_iconst (-1 : Int32) dX12_sheetFor_32 ic_m1 ?_
        refine n_icmp_eq 47 dX12_sheetFor_33 (by decide) (fun c5 => ?_) (fun c5 => ?_)
        · have h := yb_ifp c5 h
          exact p_jump (tj_X12_sheetFor_47 hrc5 h) (And.intro rfl (And.intro rfl (And.intro rfl (And.intro rfl (And.intro rfl trivial)))))
        · have h := yb_ifn c5 h
          refine n_aload_n (i := 0) dX12_sheetFor_36 rfl rfl ?_
          refine p_getr fl_X12_134 (sh_176 _ _) rfl (rR_176_53 _ _) dX12_sheetFor_37 ?_
          refine n_iload dX12_sheetFor_40 rfl ?_
          obtain ⟨v9, hv9, h⟩ := yb_bind h
          refine p_iald hv9 (sh_334 _ _) dX12_sheetFor_42 ?_
          refine n_iload_n (i := 2) dX12_sheetFor_43 rfl rfl ?_
          refine n_icmp_le 62 dX12_sheetFor_44 (by decide) (fun c10 => ?_) (fun c10 => ?_)
          · have h := yb_ifp c10 h
            exact p_jump (tj_X12_sheetFor_62 hrc5 h) (And.intro rfl (And.intro rfl (And.intro rfl (And.intro rfl (And.intro rfl trivial)))))
          · have h := yb_ifn c10 h
            exact p_jump (tj_X12_sheetFor_47 hrc5 h) (And.intro rfl (And.intro rfl (And.intro rfl (And.intro rfl (And.intro rfl trivial)))))
set_option maxHeartbeats 4000000 in
set_option maxRecDepth 20000 in
theorem tl_X12_sheetFor_5 {G : yb_G} {X : List (FieldType × Nat)} {x1 : Int32} {x2 : Int32} {s : yb_S} {out : Int32} {x3 : Int32} {x4 : Int32} (h : l_X12_sheetFor_5 x1 x2 s yb_N x3 x4 = some out) : Rn G RX12 cX12_sheetFor 5 (Option.some .int) false (yb_rm 1) (yb_qi X s out) 0 0 5 [some (.ref (yb_ad G 176)), some (.int x1), some (.int x2), some (.int x3), some (.int x4)] [] (yb_mk s X) := t_l_X12_sheetFor_5 _ _ _ h
set_option maxHeartbeats 4000000 in
set_option maxRecDepth 20000 in
theorem t_X12_sheetFor {G : yb_G} {X : List (FieldType × Nat)} {a1 : Int32} {a2 : Int32} {s : yb_S} {out : Int32} (h : f_X12_sheetFor a1 a2 s = some out) : Ct G yX12_sheetFor cX12_sheetFor 5 (Option.some .int) (yb_rm 1) [.ref (yb_ad G 176), .int a1, .int a2] (yb_mk s X) (yb_qi X s out) := by
  refine Ct.of (own := RX12) (ini := false) (vs := [some (.ref (yb_ad G 176)), some (.int a1), some (.int a2), none, none]) ⟨rfl, by decide +kernel⟩ (fun h => by cases h) (Nat.le_of_ble_eq_true rfl) rfl ?_
  unfold f_X12_sheetFor at h
  refine n_iconst (-1 : Int32) dX12_sheetFor_0 ic_m1 ?_
  refine n_istore_n (i := 3) (vs' := [some (.ref (yb_ad G 176)), some (.int a1), some (.int a2), some (.int (-1 : Int32)), none]) dX12_sheetFor_1 rfl (Nat.le_of_ble_eq_true rfl) rfl rfl ?_
  refine n_iconst (0 : Int32) dX12_sheetFor_2 ic_0 ?_
  refine n_istore (i := 4) (vs' := [some (.ref (yb_ad G 176)), some (.int a1), some (.int a2), some (.int (-1 : Int32)), some (.int (0 : Int32))]) dX12_sheetFor_3 (Nat.le_of_ble_eq_true rfl) rfl rfl ?_
  exact p_jump (tl_X12_sheetFor_5 h) (And.intro rfl (And.intro rfl (And.intro rfl (And.intro rfl (And.intro rfl trivial)))))
set_option maxHeartbeats 4000000 in
set_option maxRecDepth 20000 in
theorem tj_X12_brought_29 {G : yb_G} {X : List (FieldType × Nat)} {y0 : Int64} {s : yb_S} {out : Int32} (h : j_X12_brought_29 y0 s = some out) : Rn G RX12 cX12_brought 2 (Option.some .int) false (yb_rm 1) (yb_qi X s out) 0 0 29 [none, none] [.long y0] (yb_mk s X) := by
  unfold j_X12_brought_29 at h
  refine n_l2i dX12_brought_29 ?_
  cases h
  exact n_iret dX12_brought_30 rfl rfl (Nat.le_refl _) (Nat.le_refl _) ⟨rfl, rfl⟩
set_option maxHeartbeats 4000000 in
set_option maxRecDepth 20000 in
theorem t_X12_brought {G : yb_G} {X : List (FieldType × Nat)} {a0 : Int64} {s : yb_S} {out : Int32} (h : f_X12_brought a0 s = some out) : Ct G yX12_brought cX12_brought 2 (Option.some .int) (yb_rm 1) [.long a0] (yb_mk s X) (yb_qi X s out) := by
  refine Ct.of (own := RX12) (ini := false) (vs := [some (.long a0), none]) ⟨rfl, by decide +kernel⟩ (fun h => by cases h) (Nat.le_of_ble_eq_true rfl) rfl ?_
  unfold f_X12_brought at h
  refine n_lload_n (i := 0) dX12_brought_0 rfl rfl ?_
  refine n_ldc2 (-1000000 : Int64) k_X12_446 dX12_brought_1 ?_
  refine n_lcmp dX12_brought_4 ?_
  refine n_if_ge 14 dX12_brought_5 (by decide) (fun c1 => ?_) (fun c1 => ?_)
  · have h := yb_ifp c1 h
    refine n_lload_n (i := 0) dX12_brought_14 rfl rfl ?_
    refine n_ldc2 (1000000 : Int64) k_X12_448 dX12_brought_15 ?_
    refine n_lcmp dX12_brought_18 ?_
    refine n_if_le 28 dX12_brought_19 (by decide) (fun c2 => ?_) (fun c2 => ?_)
    · have h := yb_ifp c2 h
      refine n_lload_n (i := 0) dX12_brought_28 rfl rfl ?_
      exact p_jump (tj_X12_brought_29 h) trivial
    · have h := yb_ifn c2 h
      refine n_ldc2 (1000000 : Int64) k_X12_448 dX12_brought_22 ?_
      refine n_goto 29 dX12_brought_25 (by decide) ?_
      exact p_jump (tj_X12_brought_29 h) trivial
  · have h := yb_ifn c1 h
    refine n_ldc2 (-1000000 : Int64) k_X12_446 dX12_brought_8 ?_
    refine n_goto 29 dX12_brought_11 (by decide) ?_
    exact p_jump (tj_X12_brought_29 h) trivial
