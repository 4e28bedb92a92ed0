/-! WALKS: the machine follows the functions, piece 1 of 7 -/
set_option maxHeartbeats 4000000 in
set_option maxRecDepth 20000 in
theorem t_X7_has {G : yb_G} {X : List (FieldType × Nat)} {a1 : Int32} {s : yb_S} {out : Int32} (h : f_X7_has a1 s = some out) : Ct G yX7_has cX7_has 2 (Option.some .boolean) (yb_rm 1) [.ref (yb_ad G 41), .int a1] (yb_mk s X) (yb_qi X s out) := by
  refine Ct.of (own := RX7) (ini := false) (vs := [some (.ref (yb_ad G 41)), some (.int a1)]) ⟨rfl, by decide +kernel⟩ (fun h => by cases h) (Nat.le_of_ble_eq_true rfl) rfl ?_
  unfold f_X7_has at h
  refine n_iload_n (i := 1) dX7_has_0 rfl rfl ?_
  refine n_if_lt 22 dX7_has_1 (by decide) (fun c1 => ?_) (fun c1 => ?_)
  · have h := yb_ifp c1 h
    refine n_iconst (0 : Int32) dX7_has_22 ic_0 ?_
    cases h
    exact n_iret dX7_has_23 rfl (by decide) (Nat.le_refl _) (Nat.le_refl _) ⟨rfl, rfl⟩
  · have h := yb_ifn c1 h
    refine n_iload_n (i := 1) dX7_has_4 rfl rfl ?_
    refine n_aload_n (i := 0) dX7_has_5 rfl rfl ?_
    refine p_geti fl_X7_48 (sh_41 _ _) rfl dX7_has_6 ?_
    refine n_icmp_ge 22 dX7_has_9 (by decide) (fun c2 => ?_) (fun c2 => ?_)
    · have h := yb_ifp c2 h
      refine n_iconst (0 : Int32) dX7_has_22 ic_0 ?_
      cases h
      exact n_iret dX7_has_23 rfl (by decide) (Nat.le_refl _) (Nat.le_refl _) ⟨rfl, rfl⟩
    · have h := yb_ifn c2 h
      refine n_iload_n (i := 1) dX7_has_12 rfl rfl ?_
      refine n_bipush (60 : Int32) dX7_has_13 bp_60 ?_
      refine n_icmp_ge 22 dX7_has_15 (by decide) (fun c3 => ?_) (fun c3 => ?_)
      · have h := yb_ifp c3 h
        refine n_iconst (0 : Int32) dX7_has_22 ic_0 ?_
        cases h
        exact n_iret dX7_has_23 rfl (by decide) (Nat.le_refl _) (Nat.le_refl _) ⟨rfl, rfl⟩
      · have h := yb_ifn c3 h
        refine n_iconst (1 : Int32) dX7_has_18 ic_1 ?_
        refine n_goto 23 dX7_has_19 (by decide) ?_
        cases h
        exact n_iret dX7_has_23 rfl (by decide) (Nat.le_refl _) (Nat.le_refl _) ⟨rfl, rfl⟩
set_option maxHeartbeats 4000000 in
set_option maxRecDepth 20000 in
theorem t_X7_areBarred {G : yb_G} {X : List (FieldType × Nat)} {a1 : Int32} {a2 : Int32} {s : yb_S} {out : Int32} (h : f_X7_areBarred a1 a2 s = some out) : Ct G yX7_areBarred cX7_areBarred 3 (Option.some .boolean) (yb_rm 1) [.ref (yb_ad G 41), .int a1, .int a2] (yb_mk s X) (yb_qi X s out) := by
  refine Ct.of (own := RX7) (ini := false) (vs := [some (.ref (yb_ad G 41)), some (.int a1), some (.int a2)]) ⟨rfl, by decide +kernel⟩ (fun h => by cases h) (Nat.le_of_ble_eq_true rfl) rfl ?_
  unfold f_X7_areBarred at h
  refine n_aload_n (i := 0) dX7_areBarred_0 rfl rfl ?_
  refine p_getr fl_X7_21 (sh_41 _ _) rfl (rR_41_4 _ _) dX7_areBarred_1 ?_
  refine n_iload_n (i := 1) dX7_areBarred_4 rfl rfl ?_
  obtain ⟨v1, hv1, h⟩ := yb_bind h
  refine p_iald hv1 (sh_45 _ _) dX7_areBarred_5 ?_
  refine n_aload_n (i := 0) dX7_areBarred_6 rfl rfl ?_
  refine p_getr fl_X7_24 (sh_41 _ _) rfl (rR_41_5 _ _) dX7_areBarred_7 ?_
  refine n_iload_n (i := 2) dX7_areBarred_10 rfl rfl ?_
  obtain ⟨v2, hv2, h⟩ := yb_bind h
  refine p_iald hv2 (sh_46 _ _) dX7_areBarred_11 ?_
  refine n_icmp_gt 34 dX7_areBarred_12 (by decide) (fun c3 => ?_) (fun c3 => ?_)
  · have h := yb_ifp c3 h
    refine n_iconst (0 : Int32) dX7_areBarred_34 ic_0 ?_
    cases h
    exact n_iret dX7_areBarred_35 rfl (by decide) (Nat.le_refl _) (Nat.le_refl _) ⟨rfl, rfl⟩
  · have h := yb_ifn c3 h
    refine n_aload_n (i := 0) dX7_areBarred_15 rfl rfl ?_
    refine p_getr fl_X7_21 (sh_41 _ _) rfl (rR_41_4 _ _) dX7_areBarred_16 ?_
    refine n_iload_n (i := 2) dX7_areBarred_19 rfl rfl ?_
    obtain ⟨v4, hv4, h⟩ := yb_bind h
    refine p_iald hv4 (sh_45 _ _) dX7_areBarred_20 ?_
    refine n_aload_n (i := 0) dX7_areBarred_21 rfl rfl ?_
    refine p_getr fl_X7_24 (sh_41 _ _) rfl (rR_41_5 _ _) dX7_areBarred_22 ?_
    refine n_iload_n (i := 1) dX7_areBarred_25 rfl rfl ?_
    obtain ⟨v5, hv5, h⟩ := yb_bind h
    refine p_iald hv5 (sh_46 _ _) dX7_areBarred_26 ?_
    refine n_icmp_gt 34 dX7_areBarred_27 (by decide) (fun c6 => ?_) (fun c6 => ?_)
    · have h := yb_ifp c6 h
      refine n_iconst (0 : Int32) dX7_areBarred_34 ic_0 ?_
      cases h
      exact n_iret dX7_areBarred_35 rfl (by decide) (Nat.le_refl _) (Nat.le_refl _) ⟨rfl, rfl⟩
    · have h := yb_ifn c6 h
      refine n_iconst (1 : Int32) dX7_areBarred_30 ic_1 ?_
      refine n_goto 35 dX7_areBarred_31 (by decide) ?_
      cases h
      exact n_iret dX7_areBarred_35 rfl (by decide) (Nat.le_refl _) (Nat.le_refl _) ⟨rfl, rfl⟩
set_option maxHeartbeats 4000000 in
set_option maxRecDepth 20000 in
theorem t_X7_canBeAlike {G : yb_G} {X : List (FieldType × Nat)} {a1 : Int32} {a2 : Int32} {s : yb_S} {out : Int32} (h : f_X7_canBeAlike a1 a2 s = some out) : Ct G yX7_canBeAlike cX7_canBeAlike 3 (Option.some .boolean) (yb_rm 2) [.ref (yb_ad G 41), .int a1, .int a2] (yb_mk s X) (yb_qi X s out) := by
  refine Ct.of (own := RX7) (ini := false) (vs := [some (.ref (yb_ad G 41)), some (.int a1), some (.int a2)]) ⟨rfl, by decide +kernel⟩ (fun h => by cases h) (Nat.le_of_ble_eq_true rfl) rfl ?_
  unfold f_X7_canBeAlike at h
  refine n_aload_n (i := 0) dX7_canBeAlike_0 rfl rfl ?_
  refine n_iload_n (i := 1) dX7_canBeAlike_1 rfl rfl ?_
  obtain ⟨q1, hq1, h⟩ := yb_bind h
  refine p_callVi (As := [.int a1]) (t_X7_has hq1) cv_X7_56 (sh_41 _ _) rfl rfl (Nat.le_of_ble_eq_true rfl) dX7_canBeAlike_2 (yb_rok (Nat.le_of_ble_eq_true rfl) (by decide)) ⟨rfl, rfl⟩ ⟨Nat.le_refl _, Nat.le_refl _⟩ (fun k2 => ?_)
  refine n_if_eq 44 dX7_canBeAlike_5 (by decide) (fun c3 => ?_) (fun c3 => ?_)
  · have h := yb_ifp c3 h
    refine n_iconst (0 : Int32) dX7_canBeAlike_44 ic_0 ?_
    cases h
    exact n_iret dX7_canBeAlike_45 rfl (by decide) (Nat.le_refl _) (Nat.le_refl _) ⟨rfl, rfl⟩
  · have h := yb_ifn c3 h
    refine n_aload_n (i := 0) dX7_canBeAlike_8 rfl rfl ?_
    refine n_iload_n (i := 2) dX7_canBeAlike_9 rfl rfl ?_
    obtain ⟨q4, hq4, h⟩ := yb_bind h
    refine p_callVi (As := [.int a2]) (t_X7_has hq4) cv_X7_56 (sh_41 _ _) rfl rfl (Nat.le_of_ble_eq_true rfl) dX7_canBeAlike_10 (yb_rok (Nat.le_of_ble_eq_true rfl) (by decide)) ⟨rfl, rfl⟩ ⟨Nat.le_refl _, Nat.le_refl _⟩ (fun k5 => ?_)
    refine n_if_eq 44 dX7_canBeAlike_13 (by decide) (fun c6 => ?_) (fun c6 => ?_)
    · have h := yb_ifp c6 h
      refine n_iconst (0 : Int32) dX7_canBeAlike_44 ic_0 ?_
      cases h
      exact n_iret dX7_canBeAlike_45 rfl (by decide) (Nat.le_refl _) (Nat.le_refl _) ⟨rfl, rfl⟩
    · have h := yb_ifn c6 h
      refine n_aload_n (i := 0) dX7_canBeAlike_16 rfl rfl ?_
      refine p_getr fl_X7_9 (sh_41 _ _) rfl (rR_41_1 _ _) dX7_canBeAlike_17 ?_
      refine n_iload_n (i := 1) dX7_canBeAlike_20 rfl rfl ?_
      obtain ⟨v7, hv7, h⟩ := yb_bind h
      refine p_iald hv7 (sh_42 _ _) dX7_canBeAlike_21 ?_
      refine n_aload_n (i := 0) dX7_canBeAlike_22 rfl rfl ?_
      refine p_getr fl_X7_9 (sh_41 _ _) rfl (rR_41_1 _ _) dX7_canBeAlike_23 ?_
      refine n_iload_n (i := 2) dX7_canBeAlike_26 rfl rfl ?_
      obtain ⟨v8, hv8, h⟩ := yb_bind h
      refine p_iald hv8 (sh_42 _ _) dX7_canBeAlike_27 ?_
      refine n_icmp_eq 44 dX7_canBeAlike_28 (by decide) (fun c9 => ?_) (fun c9 => ?_)
      · have h := yb_ifp c9 h
        refine n_iconst (0 : Int32) dX7_canBeAlike_44 ic_0 ?_
        cases h
        exact n_iret dX7_canBeAlike_45 rfl (by decide) (Nat.le_refl _) (Nat.le_refl _) ⟨rfl, rfl⟩
      · have h := yb_ifn c9 h
        refine n_aload_n (i := 0) dX7_canBeAlike_31 rfl rfl ?_
        refine n_iload_n (i := 1) dX7_canBeAlike_32 rfl rfl ?_
        refine n_iload_n (i := 2) dX7_canBeAlike_33 rfl rfl ?_
        obtain ⟨q10, hq10, h⟩ := yb_bind h
        refine p_callVi (As := [.int a1, .int a2]) (t_X7_areBarred hq10) cv_X7_66 (sh_41 _ _) rfl rfl (Nat.le_of_ble_eq_true rfl) dX7_canBeAlike_34 (yb_rok (Nat.le_of_ble_eq_true rfl) (by decide)) ⟨rfl, rfl⟩ ⟨Nat.le_refl _, Nat.le_refl _⟩ (fun k11 => ?_)
        refine n_if_ne 44 dX7_canBeAlike_37 (by decide) (fun c12 => ?_) (fun c12 => ?_)
        · have h := yb_ifn c12 h
          refine n_iconst (0 : Int32) dX7_canBeAlike_44 ic_0 ?_
          cases h
          exact n_iret dX7_canBeAlike_45 rfl (by decide) (Nat.le_refl _) (Nat.le_refl _) ⟨rfl, rfl⟩
        · have h := yb_ifp c12 h
          refine n_iconst (1 : Int32) dX7_canBeAlike_40 ic_1 ?_
          refine n_goto 45 dX7_canBeAlike_41 (by decide) ?_
          cases h
          exact n_iret dX7_canBeAlike_45 rfl (by decide) (Nat.le_refl _) (Nat.le_refl _) ⟨rfl, rfl⟩
set_option maxHeartbeats 4000000 in
set_option maxRecDepth 20000 in
theorem tj_X7_points_50 {G : yb_G} {X : List (FieldType × Nat)} {rc27 : (Int32 → Int32 → Int32 → Int32 → Option Int32)} {x1 : Int32} {x3 : Int32} {x4 : Int32} {x5 : Int32} {x6 : Int32} {x7 : Int32} {s : yb_S} {out : Int32} (hrc27 : ∀ (x4' : Int32) (x5' : Int32) (x6' : Int32) (x7' : Int32), rc27 x4' x5' x6' x7' = some out → Rn G RX7 cX7_points 8 (Option.some .int) false (yb_rm 2) (yb_qi X s out) 0 0 27 [some (.ref (yb_ad G 41)), some (.int x1), none, some (.int x3), some (.int x4'), some (.int x5'), some (.int x6'), some (.int x7')] [] (yb_mk s X)) (h : j_X7_points_50 rc27 x1 x3 x4 x5 x6 x7 s = some out) : Rn G RX7 cX7_points 8 (Option.some .int) false (yb_rm 2) (yb_qi X s out) 0 0 50 [some (.ref (yb_ad G 41)), some (.int x1), none, some (.int x3), some (.int x4), some (.int x5), some (.int x6), some (.int x7)] [] (yb_mk s X) := by
  unfold j_X7_points_50 at h
  refine n_iload dX7_points_50 rfl ?_
  refine n_bipush (10 : Int32) dX7_points_52 bp_10 ?_
  refine n_idiv dX7_points_54 (by decide) ?_
  refine n_istore (i := 5) (vs' := [some (.ref (yb_ad G 41)), some (.int x1), none, some (.int x3), some (.int x4), some (.int (x5 / (10 : Int32))), some (.int x6), some (.int x7)]) dX7_points_55 (Nat.le_of_ble_eq_true rfl) rfl rfl ?_
  refine n_iload dX7_points_57 rfl ?_
  refine n_bipush (10 : Int32) dX7_points_59 bp_10 ?_
  refine n_idiv dX7_points_61 (by decide) ?_
  refine n_istore (i := 6) (vs' := [some (.ref (yb_ad G 41)), some (.int x1), none, some (.int x3), some (.int x4), some (.int (x5 / (10 : Int32))), some (.int (x6 / (10 : Int32))), some (.int x7)]) dX7_points_62 (Nat.le_of_ble_eq_true rfl) rfl rfl ?_
  refine n_iinc (vs' := [some (.ref (yb_ad G 41)), some (.int x1), none, some (.int x3), some (.int x4), some (.int (x5 / (10 : Int32))), some (.int (x6 / (10 : Int32))), some (.int (x7 + (1 : Int32)))]) dX7_points_64 rfl (ii_1 _) (Nat.le_of_ble_eq_true rfl) rfl rfl ?_
  refine n_goto 27 dX7_points_67 (by decide) ?_
  exact p_jump (hrc27 x4 (x5 / (10 : Int32)) (x6 / (10 : Int32)) (x7 + (1 : Int32)) h) (And.intro rfl (And.intro rfl (And.intro rfl (And.intro rfl (And.intro rfl (And.intro rfl (And.intro rfl trivial)))))))
set_option maxHeartbeats 4000000 in
set_option maxRecDepth 20000 in
theorem t_l_X7_points_27 {G : yb_G} {X : List (FieldType × Nat)} {x1 : Int32} {x3 : Int32} {s : yb_S} {out : Int32} : ∀ (k0 : Nat) (x4 : Int32) (x5 : Int32) (x6 : Int32) (x7 : Int32), l_X7_points_27 x1 x3 s k0 x4 x5 x6 x7 = some out → Rn G RX7 cX7_points 8 (Option.some .int) false (yb_rm 2) (yb_qi X s out) 0 0 27 [some (.ref (yb_ad G 41)), some (.int x1), none, some (.int x3), some (.int x4), some (.int x5), some (.int x6), some (.int x7)] [] (yb_mk s X) := by
  intro k0
  induction k0 with
  | zero => intro x4 x5 x6 x7 h; cases h
  | succ k0 ih =>
    intro x4 x5 x6 x7 h
    have h : f_X7_points_27 (fun x4 x5 x6 x7 => l_X7_points_27 x1 x3 s k0 x4 x5 x6 x7) x1 x3 s x4 x5 x6 x7 = some out := h
    have hrc27 := ih
    unfold f_X7_points_27 at h
    refine n_iload dX7_points_27 rfl ?_
    refine n_bipush (6 : Int32) dX7_points_29 bp_6 ?_
    refine n_icmp_ge 70 dX7_points_31 (by decide) (fun c5 => ?_) (fun c5 => ?_)
    · have h := yb_ifp c5 h
      refine n_iload dX7_points_70 rfl ?_
      refine n_aload_n (i := 0) dX7_points_72 rfl rfl ?_
      refine p_getr fl_X7_18 (sh_41 _ _) rfl (rR_41_3 _ _) dX7_points_73 ?_
      refine n_iload_n (i := 1) dX7_points_76 rfl rfl ?_
      obtain ⟨v6, hv6, h⟩ := yb_bind h
      refine p_iald hv6 (sh_44 _ _) dX7_points_77 ?_
      refine n_iload_n (i := 3) dX7_points_78 rfl rfl ?_
      refine n_isub dX7_points_79 ?_
      refine n_mabs cs_X7_60 (Nat.le_of_ble_eq_true rfl) dX7_points_80 ⟨Nat.le_of_ble_eq_true rfl, Nat.le_of_ble_eq_true rfl⟩ ⟨Nat.le_refl _, Nat.le_refl _⟩ ?_
      refine n_isub dX7_points_83 ?_
      cases h
      exact n_iret dX7_points_84 rfl rfl (Nat.le_refl _) (Nat.le_refl _) ⟨rfl, rfl⟩
    · have h := yb_ifn c5 h
      refine n_iload dX7_points_34 rfl ?_
      refine n_bipush (10 : Int32) dX7_points_36 bp_10 ?_
      refine p_irem (by decide) dX7_points_38 ?_
      refine n_iload dX7_points_39 rfl ?_
      refine n_bipush (10 : Int32) dX7_points_41 bp_10 ?_
      refine p_irem (by decide) dX7_points_43 ?_
      refine n_icmp_ne 50 dX7_points_44 (by decide) (fun c7 => ?_) (fun c7 => ?_)
      · have h := yb_ifn c7 h
        exact p_jump (tj_X7_points_50 hrc27 h) (And.intro rfl (And.intro rfl (And.intro rfl (And.intro rfl (And.intro rfl (And.intro rfl (And.intro rfl trivial)))))))
      · have h := yb_ifp c7 h
        refine n_iinc (vs' := [some (.ref (yb_ad G 41)), some (.int x1), none, some (.int x3), some (.int (x4 + (1 : Int32))), some (.int x5), some (.int x6), some (.int x7)]) dX7_points_47 rfl (ii_1 _) (Nat.le_of_ble_eq_true rfl) rfl rfl ?_
        exact p_jump (tj_X7_points_50 hrc27 h) (And.intro rfl (And.intro rfl (And.intro rfl (And.intro rfl (And.intro rfl (And.intro rfl (And.intro rfl trivial)))))))
set_option maxHeartbeats 4000000 in
set_option maxRecDepth 20000 in
theorem tl_X7_points_27 {G : yb_G} {X : List (FieldType × Nat)} {x1 : Int32} {x3 : Int32} {s : yb_S} {out : Int32} {x4 : Int32} {x5 : Int32} {x6 : Int32} {x7 : Int32} (h : l_X7_points_27 x1 x3 s yb_N x4 x5 x6 x7 = some out) : Rn G RX7 cX7_points 8 (Option.some .int) false (yb_rm 2) (yb_qi X s out) 0 0 27 [some (.ref (yb_ad G 41)), some (.int x1), none, some (.int x3), some (.int x4), some (.int x5), some (.int x6), some (.int x7)] [] (yb_mk s X) := t_l_X7_points_27 _ _ _ _ _ h
set_option maxHeartbeats 4000000 in
set_option maxRecDepth 20000 in
theorem t_X7_points {G : yb_G} {X : List (FieldType × Nat)} {a1 : Int32} {a2 : Int32} {a3 : Int32} {s : yb_S} {out : Int32} (h : f_X7_points a1 a2 a3 s = some out) : Ct G yX7_points cX7_points 8 (Option.some .int) (yb_rm 2) [.ref (yb_ad G 41), .int a1, .int a2, .int a3] (yb_mk s X) (yb_qi X s out) := by
  refine Ct.of (own := RX7) (ini := false) (vs := [some (.ref (yb_ad G 41)), some (.int a1), some (.int a2), some (.int a3), none, none, none, none]) ⟨rfl, by decide +kernel⟩ (fun h => by cases h) (Nat.le_of_ble_eq_true rfl) rfl ?_
  unfold f_X7_points at h
  refine n_aload_n (i := 0) dX7_points_0 rfl rfl ?_
  refine n_iload_n (i := 1) dX7_points_1 rfl rfl ?_
  obtain ⟨q1, hq1, h⟩ := yb_bind h
  refine p_callVi (As := [.int a1]) (t_X7_has hq1) cv_X7_56 (sh_41 _ _) rfl rfl (Nat.le_of_ble_eq_true rfl) dX7_points_2 (yb_rok (Nat.le_of_ble_eq_true rfl) (by decide)) ⟨rfl, rfl⟩ ⟨Nat.le_refl _, Nat.le_refl _⟩ (fun k2 => ?_)
  refine n_if_ne 10 dX7_points_5 (by decide) (fun c3 => ?_) (fun c3 => ?_)
  · have h := yb_ifn c3 h
    refine n_iconst (0 : Int32) dX7_points_10 ic_0 ?_
    refine n_istore (i := 4) (vs' := [some (.ref (yb_ad G 41)), some (.int a1), some (.int a2), some (.int a3), some (.int (0 : Int32)), none, none, none]) dX7_points_11 (Nat.le_of_ble_eq_true rfl) rfl rfl ?_
    refine n_aload_n (i := 0) dX7_points_13 rfl rfl ?_
    refine p_getr fl_X7_15 (sh_41 _ _) rfl (rR_41_2 _ _) dX7_points_14 ?_
    refine n_iload_n (i := 1) dX7_points_17 rfl rfl ?_
    obtain ⟨v4, hv4, h⟩ := yb_bind h
    refine p_iald hv4 (sh_43 _ _) dX7_points_18 ?_
    refine n_istore (i := 5) (vs' := [some (.ref (yb_ad G 41)), some (.int a1), some (.int a2), some (.int a3), some (.int (0 : Int32)), some (.int v4), none, none]) dX7_points_19 (Nat.le_of_ble_eq_true rfl) rfl rfl ?_
    refine n_iload_n (i := 2) dX7_points_21 rfl rfl ?_
    refine n_istore (i := 6) (vs' := [some (.ref (yb_ad G 41)), some (.int a1), some (.int a2), some (.int a3), some (.int (0 : Int32)), some (.int v4), some (.int a2), none]) dX7_points_22 (Nat.le_of_ble_eq_true rfl) rfl rfl ?_
    refine n_iconst (0 : Int32) dX7_points_24 ic_0 ?_
    refine n_istore (i := 7) (vs' := [some (.ref (yb_ad G 41)), some (.int a1), some (.int a2), some (.int a3), some (.int (0 : Int32)), some (.int v4), some (.int a2), some (.int (0 : Int32))]) dX7_points_25 (Nat.le_of_ble_eq_true rfl) rfl rfl ?_
    exact p_jump (tl_X7_points_27 h) (And.intro rfl (And.intro rfl (And.intro rfl (And.intro rfl (And.intro rfl (And.intro rfl (And.intro rfl trivial)))))))
  · have h := yb_ifp c3 h
    refine n_iconst (0 : Int32) dX7_points_8 ic_0 ?_
    cases h
    exact n_iret dX7_points_9 rfl rfl (Nat.le_refl _) (Nat.le_refl _) ⟨rfl, rfl⟩
set_option maxHeartbeats 4000000 in
set_option maxRecDepth 20000 in
theorem t_X11_alike {G : yb_G} {X : List (FieldType × Nat)} {a1 : Int32} {a2 : Int32} {s : yb_S} {out : Int32} (h : f_X11_alike a1 a2 s = some out) : Ct G yX11_alike cX11_alike 3 (Option.some .int) (yb_rm 3) [.ref (yb_ad G 0), .int a1, .int a2] (yb_mk s X) (yb_qi X s out) := by
  refine Ct.of (own := RX11) (ini := false) (vs := [some (.ref (yb_ad G 0)), some (.int a1), some (.int a2)]) ⟨rfl, by decide +kernel⟩ (fun h => by cases h) (Nat.le_of_ble_eq_true rfl) rfl ?_
  unfold f_X11_alike at h
  refine n_aload_n (i := 0) dX11_alike_0 rfl rfl ?_
  refine p_getr fl_X11_10 (sh_0 _ _) rfl (rR_0_0 _ _) dX11_alike_1 ?_
  refine p_getr fl_X11_128 (sh_1 _ _) rfl (rR_1_3 _ _) dX11_alike_4 ?_
  refine n_iload_n (i := 1) dX11_alike_7 rfl rfl ?_
  refine n_iload_n (i := 2) dX11_alike_8 rfl rfl ?_
  obtain ⟨q1, hq1, h⟩ := yb_bind h
  refine p_callVi (As := [.int a1, .int a2]) (t_X7_canBeAlike hq1) cv_X11_137 (sh_41 _ _) rfl rfl (Nat.le_of_ble_eq_true rfl) dX11_alike_9 (yb_rok (Nat.le_of_ble_eq_true rfl) (by decide)) ⟨rfl, rfl⟩ ⟨Nat.le_refl _, Nat.le_refl _⟩ (fun k2 => ?_)
  refine n_if_ne 18 dX11_alike_12 (by decide) (fun c3 => ?_) (fun c3 => ?_)
  · have h := yb_ifn c3 h
    refine n_aload_n (i := 0) dX11_alike_18 rfl rfl ?_
    refine p_getr fl_X11_10 (sh_0 _ _) rfl (rR_0_0 _ _) dX11_alike_19 ?_
    refine p_getr fl_X11_128 (sh_1 _ _) rfl (rR_1_3 _ _) dX11_alike_22 ?_
    refine n_iload_n (i := 1) dX11_alike_25 rfl rfl ?_
    refine n_aload_n (i := 0) dX11_alike_26 rfl rfl ?_
    refine p_getr fl_X11_10 (sh_0 _ _) rfl (rR_0_0 _ _) dX11_alike_27 ?_
    refine p_getr fl_X11_128 (sh_1 _ _) rfl (rR_1_3 _ _) dX11_alike_30 ?_
    refine p_getr fl_X11_141 (sh_41 _ _) rfl (rR_41_2 _ _) dX11_alike_33 ?_
    refine n_iload_n (i := 2) dX11_alike_36 rfl rfl ?_
    obtain ⟨v4, hv4, h⟩ := yb_bind h
    refine p_iald hv4 (sh_43 _ _) dX11_alike_37 ?_
    refine n_aload_n (i := 0) dX11_alike_38 rfl rfl ?_
    refine p_getr fl_X11_10 (sh_0 _ _) rfl (rR_0_0 _ _) dX11_alike_39 ?_
    refine p_getr fl_X11_128 (sh_1 _ _) rfl (rR_1_3 _ _) dX11_alike_42 ?_
    refine p_getr fl_X11_144 (sh_41 _ _) rfl (rR_41_3 _ _) dX11_alike_45 ?_
    refine n_iload_n (i := 2) dX11_alike_48 rfl rfl ?_
    obtain ⟨v5, hv5, h⟩ := yb_bind h
    refine p_iald hv5 (sh_44 _ _) dX11_alike_49 ?_
    obtain ⟨q6, hq6, h⟩ := yb_bind h
    refine p_callVi (As := [.int a1, .int v4, .int v5]) (t_X7_points hq6) cv_X11_147 (sh_41 _ _) rfl rfl (Nat.le_of_ble_eq_true rfl) dX11_alike_50 (yb_rok (Nat.le_of_ble_eq_true rfl) (by decide)) ⟨rfl, rfl⟩ ⟨Nat.le_refl _, Nat.le_refl _⟩ (fun k7 => ?_)
    cases h
    exact n_iret dX11_alike_53 rfl rfl (Nat.le_refl _) (Nat.le_refl _) ⟨rfl, rfl⟩
  · have h := yb_ifp c3 h
    refine n_ldc (-2147483648 : Int32) k_X11_140 dX11_alike_15 ?_
    cases h
    exact n_iret dX11_alike_17 rfl rfl (Nat.le_refl _) (Nat.le_refl _) ⟨rfl, rfl⟩
set_option maxHeartbeats 4000000 in
set_option maxRecDepth 20000 in
theorem t_X11_apart {G : yb_G} {X : List (FieldType × Nat)} {a1 : Int32} {a2 : Int32} {a3 : Int32} {s : yb_S} {out : (Int32 × yb_S)} (h : f_X11_apart a1 a2 a3 s = some out) : Ct G yX11_apart cX11_apart 4 (Option.some .boolean) (yb_rm 1) [.ref (yb_ad G 0), .int a1, .int a2, .int a3] (yb_mk s X) (yb_qi X out.2 out.1) := by
  refine Ct.of (own := RX11) (ini := false) (vs := [some (.ref (yb_ad G 0)), some (.int a1), some (.int a2), some (.int a3)]) ⟨rfl, by decide +kernel⟩ (fun h => by cases h) (Nat.le_of_ble_eq_true rfl) rfl ?_
  unfold f_X11_apart at h
  refine n_iload_n (i := 1) dX11_apart_0 rfl rfl ?_
  refine n_if_lt 25 dX11_apart_1 (by decide) (fun c1 => ?_) (fun c1 => ?_)
  · have h := yb_ifp c1 h
    refine n_iconst (0 : Int32) dX11_apart_25 ic_0 ?_
    cases h
    exact n_iret dX11_apart_26 rfl (by decide) (Nat.le_refl _) (Nat.le_refl _) ⟨rfl, rfl⟩
  · have h := yb_ifn c1 h
    refine n_iload_n (i := 1) dX11_apart_4 rfl rfl ?_
    refine n_bipush (6 : Int32) dX11_apart_5 bp_6 ?_
    refine n_icmp_ge 25 dX11_apart_7 (by decide) (fun c2 => ?_) (fun c2 => ?_)
    · have h := yb_ifp c2 h
      refine n_iconst (0 : Int32) dX11_apart_25 ic_0 ?_
      cases h
      exact n_iret dX11_apart_26 rfl (by decide) (Nat.le_refl _) (Nat.le_refl _) ⟨rfl, rfl⟩
    · have h := yb_ifn c2 h
      refine n_iload_n (i := 2) dX11_apart_10 rfl rfl ?_
      refine n_if_lt 25 dX11_apart_11 (by decide) (fun c3 => ?_) (fun c3 => ?_)
      · have h := yb_ifp c3 h
        refine n_iconst (0 : Int32) dX11_apart_25 ic_0 ?_
        cases h
        exact n_iret dX11_apart_26 rfl (by decide) (Nat.le_refl _) (Nat.le_refl _) ⟨rfl, rfl⟩
      · have h := yb_ifn c3 h
        refine n_iload_n (i := 2) dX11_apart_14 rfl rfl ?_
        refine n_bipush (6 : Int32) dX11_apart_15 bp_6 ?_
        refine n_icmp_ge 25 dX11_apart_17 (by decide) (fun c4 => ?_) (fun c4 => ?_)
        · have h := yb_ifp c4 h
          refine n_iconst (0 : Int32) dX11_apart_25 ic_0 ?_
          cases h
          exact n_iret dX11_apart_26 rfl (by decide) (Nat.le_refl _) (Nat.le_refl _) ⟨rfl, rfl⟩
        · have h := yb_ifn c4 h
          refine n_iload_n (i := 1) dX11_apart_20 rfl rfl ?_
          refine n_iload_n (i := 2) dX11_apart_21 rfl rfl ?_
          refine n_icmp_ne 27 dX11_apart_22 (by decide) (fun c5 => ?_) (fun c5 => ?_)
          · have h := yb_ifn c5 h
            refine n_iload_n (i := 3) dX11_apart_27 rfl rfl ?_
            refine n_if_lt 38 dX11_apart_28 (by decide) (fun c6 => ?_) (fun c6 => ?_)
            · have h := yb_ifp c6 h
              refine n_iconst (0 : Int32) dX11_apart_38 ic_0 ?_
              cases h
              exact n_iret dX11_apart_39 rfl (by decide) (Nat.le_refl _) (Nat.le_refl _) ⟨rfl, rfl⟩
            · have h := yb_ifn c6 h
              refine n_iload_n (i := 3) dX11_apart_31 rfl rfl ?_
              refine n_sipush (200 : Int32) dX11_apart_32 sp_200 ?_
              refine n_icmp_le 40 dX11_apart_35 (by decide) (fun c7 => ?_) (fun c7 => ?_)
              · have h := yb_ifp c7 h
                refine n_aload_n (i := 0) dX11_apart_40 rfl rfl ?_
                refine p_getr fl_X11_10 (sh_0 _ _) rfl (rR_0_0 _ _) dX11_apart_41 ?_
                refine p_getr fl_X11_100 (sh_1 _ _) rfl (rR_1_2 _ _) dX11_apart_44 ?_
                refine p_getr fl_X11_119 (sh_21 _ _) rfl (rR_21_13 _ _) dX11_apart_47 ?_
                refine n_iload_n (i := 1) dX11_apart_50 rfl rfl ?_
                obtain ⟨r8, hr8, h⟩ := yb_bind h
                refine p_aald hr8 (sh_34 _ _) (by decide) rfl (rF_34 _ _) dX11_apart_51 ?_
                refine n_iload_n (i := 2) dX11_apart_52 rfl rfl ?_
                refine n_iload_n (i := 3) dX11_apart_53 rfl rfl ?_
                obtain ⟨s9, hs9, h⟩ := yb_bind h
                refine p_iast hs9 (shF_34 hr8 _ _) dX11_apart_54 ?_
                refine n_aload_n (i := 0) dX11_apart_55 rfl rfl ?_
                refine p_getr fl_X11_10 (sh_0 _ _) rfl (rR_0_0 _ _) dX11_apart_56 ?_
                refine p_getr fl_X11_100 (sh_1 _ _) rfl (rR_1_2 _ _) dX11_apart_59 ?_
                refine p_getr fl_X11_119 (sh_21 _ _) rfl (rR_21_13 _ _) dX11_apart_62 ?_
                refine n_iload_n (i := 2) dX11_apart_65 rfl rfl ?_
                obtain ⟨r10, hr10, h⟩ := yb_bind h
                refine p_aald hr10 (sh_34 _ _) (by decide) rfl (rF_34 _ _) dX11_apart_66 ?_
                refine n_iload_n (i := 1) dX11_apart_67 rfl rfl ?_
                refine n_iload_n (i := 3) dX11_apart_68 rfl rfl ?_
                obtain ⟨s11, hs11, h⟩ := yb_bind h
                refine p_iast hs11 (shF_34 hr10 _ _) dX11_apart_69 ?_
                refine n_iconst (1 : Int32) dX11_apart_70 ic_1 ?_
                cases h
                exact n_iret dX11_apart_71 rfl (by decide) (Nat.le_refl _) (Nat.le_refl _) ⟨rfl, rfl⟩
              · have h := yb_ifn c7 h
                refine n_iconst (0 : Int32) dX11_apart_38 ic_0 ?_
                cases h
                exact n_iret dX11_apart_39 rfl (by decide) (Nat.le_refl _) (Nat.le_refl _) ⟨rfl, rfl⟩
          · have h := yb_ifp c5 h
            refine n_iconst (0 : Int32) dX11_apart_25 ic_0 ?_
            cases h
            exact n_iret dX11_apart_26 rfl (by decide) (Nat.le_refl _) (Nat.le_refl _) ⟨rfl, rfl⟩
set_option maxHeartbeats 4000000 in
set_option maxRecDepth 20000 in
theorem t_X2_has {G : yb_G} {X : List (FieldType × Nat)} {a1 : Int32} {s : yb_S} {out : Int32} (h : f_X2_has a1 s = some out) : Ct G yX2_has cX2_has 2 (Option.some .boolean) (yb_rm 1) [.ref (yb_ad G 21), .int a1] (yb_mk s X) (yb_qi X s out) := by
  refine Ct.of (own := RX2) (ini := false) (vs := [some (.ref (yb_ad G 21)), some (.int a1)]) ⟨rfl, by decide +kernel⟩ (fun h => by cases h) (Nat.le_of_ble_eq_true rfl) rfl ?_
  unfold f_X2_has at h
  refine n_iload_n (i := 1) dX2_has_0 rfl rfl ?_
  refine n_if_lt 22 dX2_has_1 (by decide) (fun c1 => ?_) (fun c1 => ?_)
  · have h := yb_ifp c1 h
    refine n_iconst (0 : Int32) dX2_has_22 ic_0 ?_
    cases h
    exact n_iret dX2_has_23 rfl (by decide) (Nat.le_refl _) (Nat.le_refl _) ⟨rfl, rfl⟩
  · have h := yb_ifn c1 h
    refine n_iload_n (i := 1) dX2_has_4 rfl rfl ?_
    refine n_aload_n (i := 0) dX2_has_5 rfl rfl ?_
    refine p_geti fl_X2_53 (sh_21 _ _) rfl dX2_has_6 ?_
    refine n_icmp_ge 22 dX2_has_9 (by decide) (fun c2 => ?_) (fun c2 => ?_)
    · have h := yb_ifp c2 h
      refine n_iconst (0 : Int32) dX2_has_22 ic_0 ?_
      cases h
      exact n_iret dX2_has_23 rfl (by decide) (Nat.le_refl _) (Nat.le_refl _) ⟨rfl, rfl⟩
    · have h := yb_ifn c2 h
      refine n_iload_n (i := 1) dX2_has_12 rfl rfl ?_
      refine n_bipush (24 : Int32) dX2_has_13 bp_24 ?_
      refine n_icmp_ge 22 dX2_has_15 (by decide) (fun c3 => ?_) (fun c3 => ?_)
      · have h := yb_ifp c3 h
        refine n_iconst (0 : Int32) dX2_has_22 ic_0 ?_
        cases h
        exact n_iret dX2_has_23 rfl (by decide) (Nat.le_refl _) (Nat.le_refl _) ⟨rfl, rfl⟩
      · have h := yb_ifn c3 h
        refine n_iconst (1 : Int32) dX2_has_18 ic_1 ?_
        refine n_goto 23 dX2_has_19 (by decide) ?_
        cases h
        exact n_iret dX2_has_23 rfl (by decide) (Nat.le_refl _) (Nat.le_refl _) ⟨rfl, rfl⟩
set_option maxHeartbeats 4000000 in
set_option maxRecDepth 20000 in
theorem t_X8_isHere {G : yb_G} {X : List (FieldType × Nat)} {a1 : Int32} {s : yb_S} {out : Int32} (h : f_X8_isHere a1 s = some out) : Ct G yX8_isHere cX8_isHere 2 (Option.some .boolean) (yb_rm 2) [.ref (yb_ad G 1), .int a1] (yb_mk s X) (yb_qi X s out) := by
  refine Ct.of (own := RX8) (ini := false) (vs := [some (.ref (yb_ad G 1)), some (.int a1)]) ⟨rfl, by decide +kernel⟩ (fun h => by cases h) (Nat.le_of_ble_eq_true rfl) rfl ?_
  unfold f_X8_isHere at h
  refine n_aload_n (i := 0) dX8_isHere_0 rfl rfl ?_
  refine p_getr fl_X8_28 (sh_1 _ _) rfl (rR_1_2 _ _) dX8_isHere_1 ?_
  refine n_iload_n (i := 1) dX8_isHere_4 rfl rfl ?_
  obtain ⟨q1, hq1, h⟩ := yb_bind h
  refine p_callVi (As := [.int a1]) (t_X2_has hq1) cv_X8_50 (sh_21 _ _) rfl rfl (Nat.le_of_ble_eq_true rfl) dX8_isHere_5 (yb_rok (Nat.le_of_ble_eq_true rfl) (by decide)) ⟨rfl, rfl⟩ ⟨Nat.le_refl _, Nat.le_refl _⟩ (fun k2 => ?_)
  refine n_if_eq 28 dX8_isHere_8 (by decide) (fun c3 => ?_) (fun c3 => ?_)
  · have h := yb_ifp c3 h
    refine n_iconst (0 : Int32) dX8_isHere_28 ic_0 ?_
    cases h
    exact n_iret dX8_isHere_29 rfl (by decide) (Nat.le_refl _) (Nat.le_refl _) ⟨rfl, rfl⟩
  · have h := yb_ifn c3 h
    refine n_aload_n (i := 0) dX8_isHere_11 rfl rfl ?_
    refine p_getr fl_X8_28 (sh_1 _ _) rfl (rR_1_2 _ _) dX8_isHere_12 ?_
    refine p_getr fl_X8_54 (sh_21 _ _) rfl (rR_21_7 _ _) dX8_isHere_15 ?_
    refine n_iload_n (i := 1) dX8_isHere_18 rfl rfl ?_
    obtain ⟨v4, hv4, h⟩ := yb_bind h
    refine p_iald hv4 (sh_28 _ _) dX8_isHere_19 ?_
    refine n_iconst (2 : Int32) dX8_isHere_20 ic_2 ?_
    refine n_icmp_eq 28 dX8_isHere_21 (by decide) (fun c5 => ?_) (fun c5 => ?_)
    · have h := yb_ifp c5 h
      refine n_iconst (0 : Int32) dX8_isHere_28 ic_0 ?_
      cases h
      exact n_iret dX8_isHere_29 rfl (by decide) (Nat.le_refl _) (Nat.le_refl _) ⟨rfl, rfl⟩
    · have h := yb_ifn c5 h
      refine n_iconst (1 : Int32) dX8_isHere_24 ic_1 ?_
      refine n_goto 29 dX8_isHere_25 (by decide) ?_
      cases h
      exact n_iret dX8_isHere_29 rfl (by decide) (Nat.le_refl _) (Nat.le_refl _) ⟨rfl, rfl⟩
set_option maxHeartbeats 4000000 in
set_option maxRecDepth 20000 in
theorem t_X4_has {G : yb_G} {X : List (FieldType × Nat)} {a1 : Int32} {s : yb_S} {out : Int32} (h : f_X4_has a1 s = some out) : Ct G yX4_has cX4_has 2 (Option.some .boolean) (yb_rm 1) [.ref (yb_ad G 13), .int a1] (yb_mk s X) (yb_qi X s out) := by
  refine Ct.of (own := RX4) (ini := false) (vs := [some (.ref (yb_ad G 13)), some (.int a1)]) ⟨rfl, by decide +kernel⟩ (fun h => by cases h) (Nat.le_of_ble_eq_true rfl) rfl ?_
  unfold f_X4_has at h
  refine n_iload_n (i := 1) dX4_has_0 rfl rfl ?_
  refine n_if_lt 22 dX4_has_1 (by decide) (fun c1 => ?_) (fun c1 => ?_)
  · have h := yb_ifp c1 h
    refine n_iconst (0 : Int32) dX4_has_22 ic_0 ?_
    cases h
    exact n_iret dX4_has_23 rfl (by decide) (Nat.le_refl _) (Nat.le_refl _) ⟨rfl, rfl⟩
  · have h := yb_ifn c1 h
    refine n_iload_n (i := 1) dX4_has_4 rfl rfl ?_
    refine n_aload_n (i := 0) dX4_has_5 rfl rfl ?_
    refine p_geti fl_X4_33 (sh_13 _ _) rfl dX4_has_6 ?_
    refine n_icmp_ge 22 dX4_has_9 (by decide) (fun c2 => ?_) (fun c2 => ?_)
    · have h := yb_ifp c2 h
      refine n_iconst (0 : Int32) dX4_has_22 ic_0 ?_
      cases h
      exact n_iret dX4_has_23 rfl (by decide) (Nat.le_refl _) (Nat.le_refl _) ⟨rfl, rfl⟩
    · have h := yb_ifn c2 h
      refine n_iload_n (i := 1) dX4_has_12 rfl rfl ?_
      refine n_bipush (24 : Int32) dX4_has_13 bp_24 ?_
      refine n_icmp_ge 22 dX4_has_15 (by decide) (fun c3 => ?_) (fun c3 => ?_)
      · have h := yb_ifp c3 h
        refine n_iconst (0 : Int32) dX4_has_22 ic_0 ?_
        cases h
        exact n_iret dX4_has_23 rfl (by decide) (Nat.le_refl _) (Nat.le_refl _) ⟨rfl, rfl⟩
      · have h := yb_ifn c3 h
        refine n_iconst (1 : Int32) dX4_has_18 ic_1 ?_
        refine n_goto 23 dX4_has_19 (by decide) ?_
        cases h
        exact n_iret dX4_has_23 rfl (by decide) (Nat.le_refl _) (Nat.le_refl _) ⟨rfl, rfl⟩
set_option maxHeartbeats 4000000 in
set_option maxRecDepth 20000 in
theorem t_X10_has {G : yb_G} {X : List (FieldType × Nat)} {a1 : Int32} {s : yb_S} {out : Int32} (h : f_X10_has a1 s = some out) : Ct G yX10_has cX10_has 2 (Option.some .boolean) (yb_rm 1) [.ref (yb_ad G 2), .int a1] (yb_mk s X) (yb_qi X s out) := by
  refine Ct.of (own := RX10) (ini := false) (vs := [some (.ref (yb_ad G 2)), some (.int a1)]) ⟨rfl, by decide +kernel⟩ (fun h => by cases h) (Nat.le_of_ble_eq_true rfl) rfl ?_
  unfold f_X10_has at h
  refine n_iload_n (i := 1) dX10_has_0 rfl rfl ?_
  refine n_if_lt 22 dX10_has_1 (by decide) (fun c1 => ?_) (fun c1 => ?_)
  · have h := yb_ifp c1 h
    refine n_iconst (0 : Int32) dX10_has_22 ic_0 ?_
    cases h
    exact n_iret dX10_has_23 rfl (by decide) (Nat.le_refl _) (Nat.le_refl _) ⟨rfl, rfl⟩
  · have h := yb_ifn c1 h
    refine n_iload_n (i := 1) dX10_has_4 rfl rfl ?_
    refine n_aload_n (i := 0) dX10_has_5 rfl rfl ?_
    refine p_geti fl_X10_44 (sh_2 _ _) rfl dX10_has_6 ?_
    refine n_icmp_ge 22 dX10_has_9 (by decide) (fun c2 => ?_) (fun c2 => ?_)
    · have h := yb_ifp c2 h
      refine n_iconst (0 : Int32) dX10_has_22 ic_0 ?_
      cases h
      exact n_iret dX10_has_23 rfl (by decide) (Nat.le_refl _) (Nat.le_refl _) ⟨rfl, rfl⟩
    · have h := yb_ifn c2 h
      refine n_iload_n (i := 1) dX10_has_12 rfl rfl ?_
      refine n_bipush (8 : Int32) dX10_has_13 bp_8 ?_
      refine n_icmp_ge 22 dX10_has_15 (by decide) (fun c3 => ?_) (fun c3 => ?_)
      · have h := yb_ifp c3 h
        refine n_iconst (0 : Int32) dX10_has_22 ic_0 ?_
        cases h
        exact n_iret dX10_has_23 rfl (by decide) (Nat.le_refl _) (Nat.le_refl _) ⟨rfl, rfl⟩
      · have h := yb_ifn c3 h
        refine n_iconst (1 : Int32) dX10_has_18 ic_1 ?_
        refine n_goto 23 dX10_has_19 (by decide) ?_
        cases h
        exact n_iret dX10_has_23 rfl (by decide) (Nat.le_refl _) (Nat.le_refl _) ⟨rfl, rfl⟩
set_option maxHeartbeats 4000000 in
set_option maxRecDepth 20000 in
theorem t_X10_milesBetween {G : yb_G} {X : List (FieldType × Nat)} {a1 : Int32} {a2 : Int32} {s : yb_S} {out : Int32} (h : f_X10_milesBetween a1 a2 s = some out) : Ct G yX10_milesBetween cX10_milesBetween 3 (Option.some .int) (yb_rm 2) [.ref (yb_ad G 2), .int a1, .int a2] (yb_mk s X) (yb_qi X s out) := by
  refine Ct.of (own := RX10) (ini := false) (vs := [some (.ref (yb_ad G 2)), some (.int a1), some (.int a2)]) ⟨rfl, by decide +kernel⟩ (fun h => by cases h) (Nat.le_of_ble_eq_true rfl) rfl ?_
  unfold f_X10_milesBetween at h
  refine n_aload_n (i := 0) dX10_milesBetween_0 rfl rfl ?_
  refine n_iload_n (i := 1) dX10_milesBetween_1 rfl rfl ?_
  obtain ⟨q1, hq1, h⟩ := yb_bind h
  refine p_callVi (As := [.int a1]) (t_X10_has hq1) cv_X10_48 (sh_2 _ _) rfl rfl (Nat.le_of_ble_eq_true rfl) dX10_milesBetween_2 (yb_rok (Nat.le_of_ble_eq_true rfl) (by decide)) ⟨rfl, rfl⟩ ⟨Nat.le_refl _, Nat.le_refl _⟩ (fun k2 => ?_)
  refine n_if_eq 35 dX10_milesBetween_5 (by decide) (fun c3 => ?_) (fun c3 => ?_)
  · have h := yb_ifp c3 h
    refine n_iconst (0 : Int32) dX10_milesBetween_35 ic_0 ?_
    cases h
    exact n_iret dX10_milesBetween_36 rfl rfl (Nat.le_refl _) (Nat.le_refl _) ⟨rfl, rfl⟩
  · have h := yb_ifn c3 h
    refine n_aload_n (i := 0) dX10_milesBetween_8 rfl rfl ?_
    refine n_iload_n (i := 2) dX10_milesBetween_9 rfl rfl ?_
    obtain ⟨q4, hq4, h⟩ := yb_bind h
    refine p_callVi (As := [.int a2]) (t_X10_has hq4) cv_X10_48 (sh_2 _ _) rfl rfl (Nat.le_of_ble_eq_true rfl) dX10_milesBetween_10 (yb_rok (Nat.le_of_ble_eq_true rfl) (by decide)) ⟨rfl, rfl⟩ ⟨Nat.le_refl _, Nat.le_refl _⟩ (fun k5 => ?_)
    refine n_if_eq 35 dX10_milesBetween_13 (by decide) (fun c6 => ?_) (fun c6 => ?_)
    · have h := yb_ifp c6 h
      refine n_iconst (0 : Int32) dX10_milesBetween_35 ic_0 ?_
      cases h
      exact n_iret dX10_milesBetween_36 rfl rfl (Nat.le_refl _) (Nat.le_refl _) ⟨rfl, rfl⟩
    · have h := yb_ifn c6 h
      refine n_aload_n (i := 0) dX10_milesBetween_16 rfl rfl ?_
      refine p_getr fl_X10_9 (sh_2 _ _) rfl (rR_2_1 _ _) dX10_milesBetween_17 ?_
      refine n_iload_n (i := 1) dX10_milesBetween_20 rfl rfl ?_
      obtain ⟨v7, hv7, h⟩ := yb_bind h
      refine p_iald hv7 (sh_3 _ _) dX10_milesBetween_21 ?_
      refine n_aload_n (i := 0) dX10_milesBetween_22 rfl rfl ?_
      refine p_getr fl_X10_9 (sh_2 _ _) rfl (rR_2_1 _ _) dX10_milesBetween_23 ?_
      refine n_iload_n (i := 2) dX10_milesBetween_26 rfl rfl ?_
      obtain ⟨v8, hv8, h⟩ := yb_bind h
      refine p_iald hv8 (sh_3 _ _) dX10_milesBetween_27 ?_
      refine n_isub dX10_milesBetween_28 ?_
      refine n_mabs cs_X10_52 (Nat.le_of_ble_eq_true rfl) dX10_milesBetween_29 ⟨Nat.le_of_ble_eq_true rfl, Nat.le_of_ble_eq_true rfl⟩ ⟨Nat.le_refl _, Nat.le_refl _⟩ ?_
      refine n_goto 36 dX10_milesBetween_32 (by decide) ?_
      cases h
      exact n_iret dX10_milesBetween_36 rfl rfl (Nat.le_refl _) (Nat.le_refl _) ⟨rfl, rfl⟩
set_option maxHeartbeats 4000000 in
set_option maxRecDepth 20000 in
theorem t_X2_milesApart {G : yb_G} {X : List (FieldType × Nat)} {a1 : Int32} {a2 : Int32} {s : yb_S} {out : Int32} (h : f_X2_milesApart a1 a2 s = some out) : Ct G yX2_milesApart cX2_milesApart 3 (Option.some .int) (yb_rm 2) [.ref (yb_ad G 21), .int a1, .int a2] (yb_mk s X) (yb_qi X s out) := by
  refine Ct.of (own := RX2) (ini := false) (vs := [some (.ref (yb_ad G 21)), some (.int a1), some (.int a2)]) ⟨rfl, by decide +kernel⟩ (fun h => by cases h) (Nat.le_of_ble_eq_true rfl) rfl ?_
  unfold f_X2_milesApart at h
  refine n_aload_n (i := 0) dX2_milesApart_0 rfl rfl ?_
  refine n_iload_n (i := 1) dX2_milesApart_1 rfl rfl ?_
  obtain ⟨q1, hq1, h⟩ := yb_bind h
  refine p_callVi (As := [.int a1]) (t_X2_has hq1) cv_X2_57 (sh_21 _ _) rfl rfl (Nat.le_of_ble_eq_true rfl) dX2_milesApart_2 (yb_rok (Nat.le_of_ble_eq_true rfl) (by decide)) ⟨rfl, rfl⟩ ⟨Nat.le_refl _, Nat.le_refl _⟩ (fun k2 => ?_)
  refine n_if_eq 37 dX2_milesApart_5 (by decide) (fun c3 => ?_) (fun c3 => ?_)
  · have h := yb_ifp c3 h
    refine n_iconst (0 : Int32) dX2_milesApart_37 ic_0 ?_
    cases h
    exact n_iret dX2_milesApart_38 rfl rfl (Nat.le_refl _) (Nat.le_refl _) ⟨rfl, rfl⟩
  · have h := yb_ifn c3 h
    refine n_aload_n (i := 0) dX2_milesApart_8 rfl rfl ?_
    refine n_iload_n (i := 2) dX2_milesApart_9 rfl rfl ?_
    obtain ⟨q4, hq4, h⟩ := yb_bind h
    refine p_callVi (As := [.int a2]) (t_X2_has hq4) cv_X2_57 (sh_21 _ _) rfl rfl (Nat.le_of_ble_eq_true rfl) dX2_milesApart_10 (yb_rok (Nat.le_of_ble_eq_true rfl) (by decide)) ⟨rfl, rfl⟩ ⟨Nat.le_refl _, Nat.le_refl _⟩ (fun k5 => ?_)
    refine n_if_eq 37 dX2_milesApart_13 (by decide) (fun c6 => ?_) (fun c6 => ?_)
    · have h := yb_ifp c6 h
      refine n_iconst (0 : Int32) dX2_milesApart_37 ic_0 ?_
      cases h
      exact n_iret dX2_milesApart_38 rfl rfl (Nat.le_refl _) (Nat.le_refl _) ⟨rfl, rfl⟩
    · have h := yb_ifn c6 h
      refine n_aload_n (i := 0) dX2_milesApart_16 rfl rfl ?_
      refine p_getr fl_X2_50 (sh_21 _ _) rfl (rR_21_13 _ _) dX2_milesApart_17 ?_
      refine n_aload_n (i := 0) dX2_milesApart_20 rfl rfl ?_
      refine p_getr fl_X2_27 (sh_21 _ _) rfl (rR_21_6 _ _) dX2_milesApart_21 ?_
      refine n_iload_n (i := 1) dX2_milesApart_24 rfl rfl ?_
      obtain ⟨v7, hv7, h⟩ := yb_bind h
      refine p_iald hv7 (sh_27 _ _) dX2_milesApart_25 ?_
      obtain ⟨r8, hr8, h⟩ := yb_bind h
      refine p_aald hr8 (sh_34 _ _) (by decide) rfl (rF_34 _ _) dX2_milesApart_26 ?_
      refine n_aload_n (i := 0) dX2_milesApart_27 rfl rfl ?_
      refine p_getr fl_X2_27 (sh_21 _ _) rfl (rR_21_6 _ _) dX2_milesApart_28 ?_
      refine n_iload_n (i := 2) dX2_milesApart_31 rfl rfl ?_
      obtain ⟨v9, hv9, h⟩ := yb_bind h
      refine p_iald hv9 (sh_27 _ _) dX2_milesApart_32 ?_
      obtain ⟨v10, hv10, h⟩ := yb_bind h
      refine p_iald hv10 (shF_34 hr8 _ _) dX2_milesApart_33 ?_
      refine n_goto 38 dX2_milesApart_34 (by decide) ?_
      cases h
      exact n_iret dX2_milesApart_38 rfl rfl (Nat.le_refl _) (Nat.le_refl _) ⟨rfl, rfl⟩
set_option maxHeartbeats 4000000 in
set_option maxRecDepth 20000 in
theorem tj_X8_isTooNear_54 {G : yb_G} {X : List (FieldType × Nat)} {rc2 : (Int32 → Option Int32)} {x1 : Int32} {x2 : Int32} {x3 : Int32} {s : yb_S} {out : Int32} (hrc2 : ∀ (x3' : Int32), rc2 x3' = some out → Rn G RX8 cX8_isTooNear 5 (Option.some .boolean) false (yb_rm 3) (yb_qi X s out) 0 0 2 [some (.ref (yb_ad G 1)), some (.int x1), some (.int x2), some (.int x3'), none] [] (yb_mk s X)) (h : j_X8_isTooNear_54 rc2 x1 x2 x3 s = some out) : Rn G RX8 cX8_isTooNear 5 (Option.some .boolean) false (yb_rm 3) (yb_qi X s out) 0 0 54 [some (.ref (yb_ad G 1)), some (.int x1), some (.int x2), some (.int x3), none] [] (yb_mk s X) := by
  unfold j_X8_isTooNear_54 at h
  refine n_iinc (vs' := [some (.ref (yb_ad G 1)), some (.int x1), some (.int x2), some (.int (x3 + (1 : Int32))), none]) dX8_isTooNear_54 rfl (ii_1 _) (Nat.le_of_ble_eq_true rfl) rfl rfl ?_
  refine n_goto 2 dX8_isTooNear_57 (by decide) ?_
  exact p_jump (hrc2 (x3 + (1 : Int32)) h) (And.intro rfl (And.intro rfl (And.intro rfl (And.intro rfl trivial))))
set_option maxHeartbeats 4000000 in
set_option maxRecDepth 20000 in
theorem t_l_X8_isTooNear_2 {G : yb_G} {X : List (FieldType × Nat)} {x1 : Int32} {x2 : Int32} {s : yb_S} {out : Int32} : ∀ (k0 : Nat) (x3 : Int32), l_X8_isTooNear_2 x1 x2 s k0 x3 = some out → Rn G RX8 cX8_isTooNear 5 (Option.some .boolean) false (yb_rm 3) (yb_qi X s out) 0 0 2 [some (.ref (yb_ad G 1)), some (.int x1), some (.int x2), some (.int x3), none] [] (yb_mk s X) := by
  intro k0
  induction k0 with
  | zero => intro x3 h; cases h
  | succ k0 ih =>
    intro x3 h
    have h : f_X8_isTooNear_2 (fun x3 => l_X8_isTooNear_2 x1 x2 s k0 x3) x1 x2 s x3 = some out := h
    have hrc2 := ih
    unfold f_X8_isTooNear_2 at h
    refine n_iload_n (i := 3) dX8_isTooNear_2 rfl rfl ?_
    refine n_aload_n (i := 0) dX8_isTooNear_3 rfl rfl ?_
    refine p_getr fl_X8_28 (sh_1 _ _) rfl (rR_1_2 _ _) dX8_isTooNear_4 ?_
    refine p_geti fl_X8_57 (sh_21 _ _) rfl dX8_isTooNear_7 ?_
    refine n_icmp_ge 60 dX8_isTooNear_10 (by decide) (fun c1 => ?_) (fun c1 => ?_)
    · have h := yb_ifp c1 h
      refine n_iconst (0 : Int32) dX8_isTooNear_60 ic_0 ?_
      cases h
      exact n_iret dX8_isTooNear_61 rfl (by decide) (Nat.le_refl _) (Nat.le_refl _) ⟨rfl, rfl⟩
    · have h := yb_ifn c1 h
      refine n_aload_n (i := 0) dX8_isTooNear_13 rfl rfl ?_
      refine p_getr fl_X8_28 (sh_1 _ _) rfl (rR_1_2 _ _) dX8_isTooNear_14 ?_
      refine p_getr fl_X8_75 (sh_21 _ _) rfl (rR_21_9 _ _) dX8_isTooNear_17 ?_
      refine n_iload_n (i := 3) dX8_isTooNear_20 rfl rfl ?_
      obtain ⟨v2, hv2, h⟩ := yb_bind h
      refine p_iald hv2 (sh_30 _ _) dX8_isTooNear_21 ?_
      refine n_istore (i := 4) (vs' := [some (.ref (yb_ad G 1)), some (.int x1), some (.int x2), some (.int x3), some (.int v2)]) dX8_isTooNear_22 (Nat.le_of_ble_eq_true rfl) rfl rfl ?_
      refine n_iload dX8_isTooNear_24 rfl ?_
      refine n_iconst (-1 : Int32) dX8_isTooNear_26 ic_m1 ?_
      refine n_icmp_eq 54 dX8_isTooNear_27 (by decide) (fun c3 => ?_) (fun c3 => ?_)
      · have h := yb_ifp c3 h
        exact p_jump (tj_X8_isTooNear_54 hrc2 h) (And.intro rfl (And.intro rfl (And.intro rfl (And.intro rfl trivial))))
      · have h := yb_ifn c3 h
        refine n_aload_n (i := 0) dX8_isTooNear_30 rfl rfl ?_
        refine p_getr fl_X8_12 (sh_1 _ _) rfl (rR_1_0 _ _) dX8_isTooNear_31 ?_
        refine n_iload_n (i := 2) dX8_isTooNear_34 rfl rfl ?_
        refine n_iload dX8_isTooNear_35 rfl ?_
        obtain ⟨q4, hq4, h⟩ := yb_bind h
        refine p_callVi (As := [.int x2, .int v2]) (t_X10_milesBetween hq4) cv_X8_155 (sh_2 _ _) rfl rfl (Nat.le_of_ble_eq_true rfl) dX8_isTooNear_37 (yb_rok (Nat.le_of_ble_eq_true rfl) (by decide)) ⟨rfl, rfl⟩ ⟨Nat.le_refl _, Nat.le_refl _⟩ (fun k5 => ?_)
        refine n_aload_n (i := 0) dX8_isTooNear_40 rfl rfl ?_
        refine p_getr fl_X8_28 (sh_1 _ _) rfl (rR_1_2 _ _) dX8_isTooNear_41 ?_
        refine n_iload_n (i := 1) dX8_isTooNear_44 rfl rfl ?_
        refine n_iload_n (i := 3) dX8_isTooNear_45 rfl rfl ?_
        obtain ⟨q6, hq6, h⟩ := yb_bind h
        refine p_callVi (As := [.int x1, .int x3]) (t_X2_milesApart hq6) cv_X8_158 (sh_21 _ _) rfl rfl (Nat.le_of_ble_eq_true rfl) dX8_isTooNear_46 (yb_rok (Nat.le_of_ble_eq_true rfl) (by decide)) ⟨rfl, rfl⟩ ⟨Nat.le_refl _, Nat.le_refl _⟩ (fun k7 => ?_)
        refine n_icmp_ge 54 dX8_isTooNear_49 (by decide) (fun c8 => ?_) (fun c8 => ?_)
        · have h := yb_ifp c8 h
          exact p_jump (tj_X8_isTooNear_54 hrc2 h) (And.intro rfl (And.intro rfl (And.intro rfl (And.intro rfl trivial))))
        · have h := yb_ifn c8 h
          refine n_iconst (1 : Int32) dX8_isTooNear_52 ic_1 ?_
          cases h
          exact n_iret dX8_isTooNear_53 rfl (by decide) (Nat.le_refl _) (Nat.le_refl _) ⟨rfl, rfl⟩
set_option maxHeartbeats 4000000 in
set_option maxRecDepth 20000 in
theorem tl_X8_isTooNear_2 {G : yb_G} {X : List (FieldType × Nat)} {x1 : Int32} {x2 : Int32} {s : yb_S} {out : Int32} {x3 : Int32} (h : l_X8_isTooNear_2 x1 x2 s yb_N x3 = some out) : Rn G RX8 cX8_isTooNear 5 (Option.some .boolean) false (yb_rm 3) (yb_qi X s out) 0 0 2 [some (.ref (yb_ad G 1)), some (.int x1), some (.int x2), some (.int x3), none] [] (yb_mk s X) := t_l_X8_isTooNear_2 _ _ h
set_option maxHeartbeats 4000000 in
set_option maxRecDepth 20000 in
theorem t_X8_isTooNear {G : yb_G} {X : List (FieldType × Nat)} {a1 : Int32} {a2 : Int32} {s : yb_S} {out : Int32} (h : f_X8_isTooNear a1 a2 s = some out) : Ct G yX8_isTooNear cX8_isTooNear 5 (Option.some .boolean) (yb_rm 3) [.ref (yb_ad G 1), .int a1, .int a2] (yb_mk s X) (yb_qi X s out) := by
  refine Ct.of (own := RX8) (ini := false) (vs := [some (.ref (yb_ad G 1)), some (.int a1), some (.int a2), none, none]) ⟨rfl, by decide +kernel⟩ (fun h => by cases h) (Nat.le_of_ble_eq_true rfl) rfl ?_
  unfold f_X8_isTooNear at h
  refine n_iconst (0 : Int32) dX8_isTooNear_0 ic_0 ?_
  refine n_istore_n (i := 3) (vs' := [some (.ref (yb_ad G 1)), some (.int a1), some (.int a2), some (.int (0 : Int32)), none]) dX8_isTooNear_1 rfl (Nat.le_of_ble_eq_true rfl) rfl rfl ?_
  exact p_jump (tl_X8_isTooNear_2 h) (And.intro rfl (And.intro rfl (And.intro rfl (And.intro rfl trivial))))
set_option maxHeartbeats 4000000 in
set_option maxRecDepth 20000 in
theorem t_X5_has {G : yb_G} {X : List (FieldType × Nat)} {a1 : Int32} {s : yb_S} {out : Int32} (h : f_X5_has a1 s = some out) : Ct G yX5_has cX5_has 2 (Option.some .boolean) (yb_rm 1) [.ref (yb_ad G 54), .int a1] (yb_mk s X) (yb_qi X s out) := by
  refine Ct.of (own := RX5) (ini := false) (vs := [some (.ref (yb_ad G 54)), some (.int a1)]) ⟨rfl, by decide +kernel⟩ (fun h => by cases h) (Nat.le_of_ble_eq_true rfl) rfl ?_
  unfold f_X5_has at h
  refine n_iload_n (i := 1) dX5_has_0 rfl rfl ?_
  refine n_if_lt 22 dX5_has_1 (by decide) (fun c1 => ?_) (fun c1 => ?_)
  · have h := yb_ifp c1 h
    refine n_iconst (0 : Int32) dX5_has_22 ic_0 ?_
    cases h
    exact n_iret dX5_has_23 rfl (by decide) (Nat.le_refl _) (Nat.le_refl _) ⟨rfl, rfl⟩
  · have h := yb_ifn c1 h
    refine n_iload_n (i := 1) dX5_has_4 rfl rfl ?_
    refine n_aload_n (i := 0) dX5_has_5 rfl rfl ?_
    refine p_geti fl_X5_36 (sh_54 _ _) rfl dX5_has_6 ?_
    refine n_icmp_ge 22 dX5_has_9 (by decide) (fun c2 => ?_) (fun c2 => ?_)
    · have h := yb_ifp c2 h
      refine n_iconst (0 : Int32) dX5_has_22 ic_0 ?_
      cases h
      exact n_iret dX5_has_23 rfl (by decide) (Nat.le_refl _) (Nat.le_refl _) ⟨rfl, rfl⟩
    · have h := yb_ifn c2 h
      refine n_iload_n (i := 1) dX5_has_12 rfl rfl ?_
      refine n_bipush (10 : Int32) dX5_has_13 bp_10 ?_
      refine n_icmp_ge 22 dX5_has_15 (by decide) (fun c3 => ?_) (fun c3 => ?_)
      · have h := yb_ifp c3 h
        refine n_iconst (0 : Int32) dX5_has_22 ic_0 ?_
        cases h
        exact n_iret dX5_has_23 rfl (by decide) (Nat.le_refl _) (Nat.le_refl _) ⟨rfl, rfl⟩
      · have h := yb_ifn c3 h
        refine n_iconst (1 : Int32) dX5_has_18 ic_1 ?_
        refine n_goto 23 dX5_has_19 (by decide) ?_
        cases h
        exact n_iret dX5_has_23 rfl (by decide) (Nat.le_refl _) (Nat.le_refl _) ⟨rfl, rfl⟩
set_option maxHeartbeats 4000000 in
set_option maxRecDepth 20000 in
theorem t_X5_hasClause {G : yb_G} {X : List (FieldType × Nat)} {a1 : Int32} {a2 : Int32} {s : yb_S} {out : Int32} (h : f_X5_hasClause a1 a2 s = some out) : Ct G yX5_hasClause cX5_hasClause 3 (Option.some .boolean) (yb_rm 2) [.ref (yb_ad G 54), .int a1, .int a2] (yb_mk s X) (yb_qi X s out) := by
  refine Ct.of (own := RX5) (ini := false) (vs := [some (.ref (yb_ad G 54)), some (.int a1), some (.int a2)]) ⟨rfl, by decide +kernel⟩ (fun h => by cases h) (Nat.le_of_ble_eq_true rfl) rfl ?_
  unfold f_X5_hasClause at h
  refine n_aload_n (i := 0) dX5_hasClause_0 rfl rfl ?_
  refine n_iload_n (i := 1) dX5_hasClause_1 rfl rfl ?_
  obtain ⟨q1, hq1, h⟩ := yb_bind h
  refine p_callVi (As := [.int a1]) (t_X5_has hq1) cv_X5_50 (sh_54 _ _) rfl rfl (Nat.le_of_ble_eq_true rfl) dX5_hasClause_2 (yb_rok (Nat.le_of_ble_eq_true rfl) (by decide)) ⟨rfl, rfl⟩ ⟨Nat.le_refl _, Nat.le_refl _⟩ (fun k2 => ?_)
  refine n_if_eq 34 dX5_hasClause_5 (by decide) (fun c3 => ?_) (fun c3 => ?_)
  · have h := yb_ifp c3 h
    refine n_iconst (0 : Int32) dX5_hasClause_34 ic_0 ?_
    cases h
    exact n_iret dX5_hasClause_35 rfl (by decide) (Nat.le_refl _) (Nat.le_refl _) ⟨rfl, rfl⟩
  · have h := yb_ifn c3 h
    refine n_iload_n (i := 2) dX5_hasClause_8 rfl rfl ?_
    refine n_if_lt 34 dX5_hasClause_9 (by decide) (fun c4 => ?_) (fun c4 => ?_)
    · have h := yb_ifp c4 h
      refine n_iconst (0 : Int32) dX5_hasClause_34 ic_0 ?_
      cases h
      exact n_iret dX5_hasClause_35 rfl (by decide) (Nat.le_refl _) (Nat.le_refl _) ⟨rfl, rfl⟩
    · have h := yb_ifn c4 h
      refine n_iload_n (i := 2) dX5_hasClause_12 rfl rfl ?_
      refine n_bipush (6 : Int32) dX5_hasClause_13 bp_6 ?_
      refine n_icmp_ge 34 dX5_hasClause_15 (by decide) (fun c5 => ?_) (fun c5 => ?_)
      · have h := yb_ifp c5 h
        refine n_iconst (0 : Int32) dX5_hasClause_34 ic_0 ?_
        cases h
        exact n_iret dX5_hasClause_35 rfl (by decide) (Nat.le_refl _) (Nat.le_refl _) ⟨rfl, rfl⟩
      · have h := yb_ifn c5 h
        refine n_aload_n (i := 0) dX5_hasClause_18 rfl rfl ?_
        refine p_getr fl_X5_27 (sh_54 _ _) rfl (rR_54_5 _ _) dX5_hasClause_19 ?_
        refine n_iload_n (i := 1) dX5_hasClause_22 rfl rfl ?_
        obtain ⟨r6, hr6, h⟩ := yb_bind h
        refine p_aald hr6 (sh_68 _ _) (by decide) rfl (rF_68 _ _) dX5_hasClause_23 ?_
        refine n_iload_n (i := 2) dX5_hasClause_24 rfl rfl ?_
        obtain ⟨v7, hv7, h⟩ := yb_bind h
        refine p_iald hv7 (shF_68 hr6 _ _) dX5_hasClause_25 ?_
        refine n_iconst (-1 : Int32) dX5_hasClause_26 ic_m1 ?_
        refine n_icmp_eq 34 dX5_hasClause_27 (by decide) (fun c8 => ?_) (fun c8 => ?_)
        · have h := yb_ifp c8 h
          refine n_iconst (0 : Int32) dX5_hasClause_34 ic_0 ?_
          cases h
          exact n_iret dX5_hasClause_35 rfl (by decide) (Nat.le_refl _) (Nat.le_refl _) ⟨rfl, rfl⟩
        · have h := yb_ifn c8 h
          refine n_iconst (1 : Int32) dX5_hasClause_30 ic_1 ?_
          refine n_goto 35 dX5_hasClause_31 (by decide) ?_
          cases h
          exact n_iret dX5_hasClause_35 rfl (by decide) (Nat.le_refl _) (Nat.le_refl _) ⟨rfl, rfl⟩
set_option maxHeartbeats 4000000 in
set_option maxRecDepth 20000 in
theorem tj_X5_inForce_81 {G : yb_G} {X : List (FieldType × Nat)} {rc24 : (Int32 → Option Int32)} {x1 : Int32} {x2 : Int32} {x3 : Int32} {s : yb_S} {out : Int32} (hrc24 : ∀ (x3' : Int32), rc24 x3' = some out → Rn G RX5 cX5_inForce 5 (Option.some .int) false (yb_rm 3) (yb_qi X s out) 0 0 24 [some (.ref (yb_ad G 54)), some (.int x1), some (.int x2), some (.int x3'), none] [] (yb_mk s X)) (h : j_X5_inForce_81 rc24 x1 x2 x3 s = some out) : Rn G RX5 cX5_inForce 5 (Option.some .int) false (yb_rm 3) (yb_qi X s out) 0 0 81 [some (.ref (yb_ad G 54)), some (.int x1), some (.int x2), some (.int x3), none] [] (yb_mk s X) := by
  unfold j_X5_inForce_81 at h
  refine n_iinc (vs' := [some (.ref (yb_ad G 54)), some (.int x1), some (.int x2), some (.int (x3 + (-1 : Int32))), none]) dX5_inForce_81 rfl (ii_m1 _) (Nat.le_of_ble_eq_true rfl) rfl rfl ?_
  refine n_goto 24 dX5_inForce_84 (by decide) ?_
  exact p_jump (hrc24 (x3 + (-1 : Int32)) h) (And.intro rfl (And.intro rfl (And.intro rfl (And.intro rfl trivial))))
set_option maxHeartbeats 4000000 in
set_option maxRecDepth 20000 in
theorem tj_X5_inForce_63 {G : yb_G} {X : List (FieldType × Nat)} {rc24 : (Int32 → Option Int32)} {x1 : Int32} {x2 : Int32} {x3 : Int32} {y0 : Int32} {s : yb_S} {out : Int32} (hrc24 : ∀ (x3' : Int32), rc24 x3' = some out → Rn G RX5 cX5_inForce 5 (Option.some .int) false (yb_rm 3) (yb_qi X s out) 0 0 24 [some (.ref (yb_ad G 54)), some (.int x1), some (.int x2), some (.int x3'), none] [] (yb_mk s X)) (h : j_X5_inForce_63 rc24 x1 x2 x3 y0 s = some out) : Rn G RX5 cX5_inForce 5 (Option.some .int) false (yb_rm 3) (yb_qi X s out) 0 0 63 [some (.ref (yb_ad G 54)), some (.int x1), some (.int x2), some (.int x3), none] [.int y0] (yb_mk s X) := by
  unfold j_X5_inForce_63 at h
  refine n_istore (i := 4) (vs' := [some (.ref (yb_ad G 54)), some (.int x1), some (.int x2), some (.int x3), some (.int y0)]) dX5_inForce_63 (Nat.le_of_ble_eq_true rfl) rfl rfl ?_
  refine n_iload dX5_inForce_65 rfl ?_
  refine n_if_eq 81 dX5_inForce_67 (by decide) (fun c7 => ?_) (fun c7 => ?_)
  · have h := yb_ifp c7 h
    exact p_jump (tj_X5_inForce_81 hrc24 h) (And.intro rfl (And.intro rfl (And.intro rfl (And.intro rfl trivial))))
  · have h := yb_ifn c7 h
    refine n_aload_n (i := 0) dX5_inForce_70 rfl rfl ?_
    refine n_iload_n (i := 3) dX5_inForce_71 rfl rfl ?_
    refine n_iload_n (i := 1) dX5_inForce_72 rfl rfl ?_
    obtain ⟨q8, hq8, h⟩ := yb_bind h
    refine p_callVi (As := [.int x3, .int x1]) (t_X5_hasClause hq8) cv_X5_54 (sh_54 _ _) rfl rfl (Nat.le_of_ble_eq_true rfl) dX5_inForce_73 (yb_rok (Nat.le_of_ble_eq_true rfl) (by decide)) ⟨rfl, rfl⟩ ⟨Nat.le_refl _, Nat.le_refl _⟩ (fun k9 => ?_)
    refine n_if_eq 81 dX5_inForce_76 (by decide) (fun c10 => ?_) (fun c10 => ?_)
    · have h := yb_ifp c10 h
      exact p_jump (tj_X5_inForce_81 hrc24 h) (And.intro rfl (And.intro rfl (And.intro rfl (And.intro rfl trivial))))
    · have h := yb_ifn c10 h
      refine n_iload_n (i := 3) dX5_inForce_79 rfl rfl ?_
      cases h
      exact n_iret dX5_inForce_80 rfl rfl (Nat.le_refl _) (Nat.le_refl _) ⟨rfl, rfl⟩
set_option maxHeartbeats 4000000 in
set_option maxRecDepth 20000 in
theorem tj_X5_inForce_62 {G : yb_G} {X : List (FieldType × Nat)} {rc24 : (Int32 → Option Int32)} {x1 : Int32} {x2 : Int32} {x3 : Int32} {s : yb_S} {out : Int32} (hrc24 : ∀ (x3' : Int32), rc24 x3' = some out → Rn G RX5 cX5_inForce 5 (Option.some .int) false (yb_rm 3) (yb_qi X s out) 0 0 24 [some (.ref (yb_ad G 54)), some (.int x1), some (.int x2), some (.int x3'), none] [] (yb_mk s X)) (h : j_X5_inForce_62 rc24 x1 x2 x3 s = some out) : Rn G RX5 cX5_inForce 5 (Option.some .int) false (yb_rm 3) (yb_qi X s out) 0 0 62 [some (.ref (yb_ad G 54)), some (.int x1), some (.int x2), some (.int x3), none] [] (yb_mk s X) := by
  unfold j_X5_inForce_62 at h
  refine n_iconst (0 : Int32) dX5_inForce_62 ic_0 ?_
  exact p_jump (tj_X5_inForce_63 hrc24 h) (And.intro rfl (And.intro rfl (And.intro rfl (And.intro rfl trivial))))
set_option maxHeartbeats 4000000 in
set_option maxRecDepth 20000 in
theorem tj_X5_inForce_58 {G : yb_G} {X : List (FieldType × Nat)} {rc24 : (Int32 → Option Int32)} {x1 : Int32} {x2 : Int32} {x3 : Int32} {s : yb_S} {out : Int32} (hrc24 : ∀ (x3' : Int32), rc24 x3' = some out → Rn G RX5 cX5_inForce 5 (Option.some .int) false (yb_rm 3) (yb_qi X s out) 0 0 24 [some (.ref (yb_ad G 54)), some (.int x1), some (.int x2), some (.int x3'), none] [] (yb_mk s X)) (h : j_X5_inForce_58 rc24 x1 x2 x3 s = some out) : Rn G RX5 cX5_inForce 5 (Option.some .int) false (yb_rm 3) (yb_qi X s out) 0 0 58 [some (.ref (yb_ad G 54)), some (.int x1), some (.int x2), some (.int x3), none] [] (yb_mk s X) := by
  unfold j_X5_inForce_58 at h
  refine n_iconst (1 : Int32) dX5_inForce_58 ic_1 ?_
  refine n_goto 63 dX5_inForce_59 (by decide) ?_
  exact p_jump (tj_X5_inForce_63 hrc24 h) (And.intro rfl (And.intro rfl (And.intro rfl (And.intro rfl trivial))))
set_option maxHeartbeats 4000000 in
set_option maxRecDepth 20000 in
theorem t_l_X5_inForce_24 {G : yb_G} {X : List (FieldType × Nat)} {x1 : Int32} {x2 : Int32} {s : yb_S} {out : Int32} : ∀ (k0 : Nat) (x3 : Int32), l_X5_inForce_24 x1 x2 s k0 x3 = some out → Rn G RX5 cX5_inForce 5 (Option.some .int) false (yb_rm 3) (yb_qi X s out) 0 0 24 [some (.ref (yb_ad G 54)), some (.int x1), some (.int x2), some (.int x3), none] [] (yb_mk s X) := by
  intro k0
  induction k0 with
  | zero => intro x3 h; cases h
  | succ k0 ih =>
    intro x3 h
    have h : f_X5_inForce_24 (fun x3 => l_X5_inForce_24 x1 x2 s k0 x3) x1 x2 s x3 = some out := h
    have hrc24 := ih
    unfold f_X5_inForce_24 at h
    refine n_iload_n (i := 3) dX5_inForce_24 rfl rfl ?_
    refine n_if_lt 87 dX5_inForce_25 (by decide) (fun c4 => ?_) (fun c4 => ?_)
    · have h := yb_ifp c4 h
      refine n_iconst (-1 : Int32) dX5_inForce_87 ic_m1 ?_
      cases h
      exact n_iret dX5_inForce_88 rfl rfl (Nat.le_refl _) (Nat.le_refl _) ⟨rfl, rfl⟩
    · have h := yb_ifn c4 h
      refine n_aload_n (i := 0) dX5_inForce_28 rfl rfl ?_
      refine p_getr fl_X5_15 (sh_54 _ _) rfl (rR_54_2 _ _) dX5_inForce_29 ?_
      refine n_iload_n (i := 3) dX5_inForce_32 rfl rfl ?_
      obtain ⟨v5, hv5, h⟩ := yb_bind h
      refine p_iald hv5 (sh_55 _ _) dX5_inForce_33 ?_
      refine n_iload_n (i := 2) dX5_inForce_34 rfl rfl ?_
      refine n_icmp_gt 62 dX5_inForce_35 (by decide) (fun c6 => ?_) (fun c6 => ?_)
      · have h := yb_ifp c6 h
        exact p_jump (tj_X5_inForce_62 hrc24 h) (And.intro rfl (And.intro rfl (And.intro rfl (And.intro rfl trivial))))
      · have h := yb_ifn c6 h
        refine n_aload_n (i := 0) dX5_inForce_38 rfl rfl ?_
        refine p_getr fl_X5_19 (sh_54 _ _) rfl (rR_54_3 _ _) dX5_inForce_39 ?_
        refine n_iload_n (i := 3) dX5_inForce_42 rfl rfl ?_
        obtain ⟨v11, hv11, h⟩ := yb_bind h
        refine p_iald hv11 (sh_56 _ _) dX5_inForce_43 ?_
        refine n_iconst (-1 : Int32) dX5_inForce_44 ic_m1 ?_
        refine n_icmp_eq 58 dX5_inForce_45 (by decide) (fun c12 => ?_) (fun c12 => ?_)
        · have h := yb_ifp c12 h
          exact p_jump (tj_X5_inForce_58 hrc24 h) (And.intro rfl (And.intro rfl (And.intro rfl (And.intro rfl trivial))))
        · have h := yb_ifn c12 h
          refine n_aload_n (i := 0) dX5_inForce_48 rfl rfl ?_
          refine p_getr fl_X5_19 (sh_54 _ _) rfl (rR_54_3 _ _) dX5_inForce_49 ?_
          refine n_iload_n (i := 3) dX5_inForce_52 rfl rfl ?_
          obtain ⟨v13, hv13, h⟩ := yb_bind h
          refine p_iald hv13 (sh_56 _ _) dX5_inForce_53 ?_
          refine n_iload_n (i := 2) dX5_inForce_54 rfl rfl ?_
          refine n_icmp_le 62 dX5_inForce_55 (by decide) (fun c14 => ?_) (fun c14 => ?_)
          · have h := yb_ifp c14 h
            exact p_jump (tj_X5_inForce_62 hrc24 h) (And.intro rfl (And.intro rfl (And.intro rfl (And.intro rfl trivial))))
          · have h := yb_ifn c14 h
            exact p_jump (tj_X5_inForce_58 hrc24 h) (And.intro rfl (And.intro rfl (And.intro rfl (And.intro rfl trivial))))
set_option maxHeartbeats 4000000 in
set_option maxRecDepth 20000 in
theorem tl_X5_inForce_24 {G : yb_G} {X : List (FieldType × Nat)} {x1 : Int32} {x2 : Int32} {s : yb_S} {out : Int32} {x3 : Int32} (h : l_X5_inForce_24 x1 x2 s yb_N x3 = some out) : Rn G RX5 cX5_inForce 5 (Option.some .int) false (yb_rm 3) (yb_qi X s out) 0 0 24 [some (.ref (yb_ad G 54)), some (.int x1), some (.int x2), some (.int x3), none] [] (yb_mk s X) := t_l_X5_inForce_24 _ _ h
set_option maxHeartbeats 4000000 in
set_option maxRecDepth 20000 in
theorem t_X5_inForce {G : yb_G} {X : List (FieldType × Nat)} {a1 : Int32} {a2 : Int32} {s : yb_S} {out : Int32} (h : f_X5_inForce a1 a2 s = some out) : Ct G yX5_inForce cX5_inForce 5 (Option.some .int) (yb_rm 3) [.ref (yb_ad G 54), .int a1, .int a2] (yb_mk s X) (yb_qi X s out) := by
  refine Ct.of (own := RX5) (ini := false) (vs := [some (.ref (yb_ad G 54)), some (.int a1), some (.int a2), none, none]) ⟨rfl, by decide +kernel⟩ (fun h => by cases h) (Nat.le_of_ble_eq_true rfl) rfl ?_
  unfold f_X5_inForce at h
  refine n_aload_n (i := 0) dX5_inForce_0 rfl rfl ?_
  refine n_aload_n (i := 0) dX5_inForce_1 rfl rfl ?_
  refine p_geti fl_X5_9 (sh_54 _ _) rfl dX5_inForce_2 ?_
  refine n_iload_n (i := 1) dX5_inForce_5 rfl rfl ?_
  obtain ⟨q1, hq1, h⟩ := yb_bind h
  refine p_callVi (As := [.int (s.1 54 1), .int a1]) (t_X5_hasClause hq1) cv_X5_54 (sh_54 _ _) rfl rfl (Nat.le_of_ble_eq_true rfl) dX5_inForce_6 (yb_rok (Nat.le_of_ble_eq_true rfl) (by decide)) ⟨rfl, rfl⟩ ⟨Nat.le_refl _, Nat.le_refl _⟩ (fun k2 => ?_)
  refine n_if_eq 17 dX5_inForce_9 (by decide) (fun c3 => ?_) (fun c3 => ?_)
  · have h := yb_ifp c3 h
    refine n_aload_n (i := 0) dX5_inForce_17 rfl rfl ?_
    refine p_geti fl_X5_36 (sh_54 _ _) rfl dX5_inForce_18 ?_
    refine n_iconst (1 : Int32) dX5_inForce_21 ic_1 ?_
    refine n_isub dX5_inForce_22 ?_
    refine n_istore_n (i := 3) (vs' := [some (.ref (yb_ad G 54)), some (.int a1), some (.int a2), some (.int ((s.1 54 0) - (1 : Int32))), none]) dX5_inForce_23 rfl (Nat.le_of_ble_eq_true rfl) rfl rfl ?_
    exact p_jump (tl_X5_inForce_24 h) (And.intro rfl (And.intro rfl (And.intro rfl (And.intro rfl trivial))))
  · have h := yb_ifn c3 h
    refine n_aload_n (i := 0) dX5_inForce_12 rfl rfl ?_
    refine p_geti fl_X5_9 (sh_54 _ _) rfl dX5_inForce_13 ?_
    cases h
    exact n_iret dX5_inForce_16 rfl rfl (Nat.le_refl _) (Nat.le_refl _) ⟨rfl, rfl⟩
set_option maxHeartbeats 4000000 in
set_option maxRecDepth 20000 in
theorem t_X5_brought {G : yb_G} {X : List (FieldType × Nat)} {a0 : Int64} {s : yb_S} {out : Int32} (h : f_X5_brought a0 s = some out) : Ct G yX5_brought cX5_brought 2 (Option.some .int) (yb_rm 1) [.long a0] (yb_mk s X) (yb_qi X s out) := by
  refine Ct.of (own := RX5) (ini := false) (vs := [some (.long a0), none]) ⟨rfl, by decide +kernel⟩ (fun h => by cases h) (Nat.le_of_ble_eq_true rfl) rfl ?_
  unfold f_X5_brought at h
  refine n_lload_n (i := 0) dX5_brought_0 rfl rfl ?_
  refine n_ldc2 (1000000 : Int64) k_X5_70 dX5_brought_1 ?_
  refine n_lcmp dX5_brought_4 ?_
  refine n_if_le 13 dX5_brought_5 (by decide) (fun c1 => ?_) (fun c1 => ?_)
  · have h := yb_ifp c1 h
    refine n_lload_n (i := 0) dX5_brought_13 rfl rfl ?_
    refine n_ldc2 (-1000000 : Int64) k_X5_73 dX5_brought_14 ?_
    refine n_lcmp dX5_brought_17 ?_
    refine n_if_ge 26 dX5_brought_18 (by decide) (fun c2 => ?_) (fun c2 => ?_)
    · have h := yb_ifp c2 h
      refine n_lload_n (i := 0) dX5_brought_26 rfl rfl ?_
      refine n_l2i dX5_brought_27 ?_
      cases h
      exact n_iret dX5_brought_28 rfl rfl (Nat.le_refl _) (Nat.le_refl _) ⟨rfl, rfl⟩
    · have h := yb_ifn c2 h
      refine n_ldc (-1000000 : Int32) k_X5_75 dX5_brought_21 ?_
      refine n_goto 28 dX5_brought_23 (by decide) ?_
      cases h
      exact n_iret dX5_brought_28 rfl rfl (Nat.le_refl _) (Nat.le_refl _) ⟨rfl, rfl⟩
  · have h := yb_ifn c1 h
    refine n_ldc (1000000 : Int32) k_X5_72 dX5_brought_8 ?_
    refine n_goto 28 dX5_brought_10 (by decide) ?_
    cases h
    exact n_iret dX5_brought_28 rfl rfl (Nat.le_refl _) (Nat.le_refl _) ⟨rfl, rfl⟩
set_option maxHeartbeats 4000000 in
set_option maxRecDepth 20000 in
theorem t_X5_joined {G : yb_G} {X : List (FieldType × Nat)} {a0 : Int32} {a1 : Int32} {a2 : Int32} {s : yb_S} {out : Int32} (h : f_X5_joined a0 a1 a2 s = some out) : Ct G yX5_joined cX5_joined 3 (Option.some .int) (yb_rm 2) [.int a0, .int a1, .int a2] (yb_mk s X) (yb_qi X s out) := by
  refine Ct.of (own := RX5) (ini := false) (vs := [some (.int a0), some (.int a1), some (.int a2)]) ⟨rfl, by decide +kernel⟩ (fun h => by cases h) (Nat.le_of_ble_eq_true rfl) rfl ?_
  unfold f_X5_joined at h
  refine n_iload_n (i := 0) dX5_joined_0 rfl rfl ?_
  by_cases c1 : a0 = (20 : Int32)
  · have h := yb_ifp c1 h
    refine n_lookup (off := 155) 156 dX5_joined_1 (by decide) (by rw [c1]; decide) (by decide) ?_
    refine n_iload_n (i := 1) dX5_joined_156 rfl rfl ?_
    refine n_iload_n (i := 2) dX5_joined_157 rfl rfl ?_
    refine n_iand dX5_joined_158 ?_
    cases h
    exact n_iret dX5_joined_159 rfl rfl (Nat.le_refl _) (Nat.le_refl _) ⟨rfl, rfl⟩
  · have h := yb_ifn c1 h
    by_cases c2 : a0 = (21 : Int32)
    · have h := yb_ifp c2 h
      refine n_lookup (off := 159) 160 dX5_joined_1 (by decide) (by rw [c2]; decide) (by decide) ?_
      refine n_iload_n (i := 1) dX5_joined_160 rfl rfl ?_
      refine n_iload_n (i := 2) dX5_joined_161 rfl rfl ?_
      refine n_ior dX5_joined_162 ?_
      cases h
      exact n_iret dX5_joined_163 rfl rfl (Nat.le_refl _) (Nat.le_refl _) ⟨rfl, rfl⟩
    · have h := yb_ifn c2 h
      by_cases c3 : a0 = (42 : Int32)
      · have h := yb_ifp c3 h
        refine n_lookup (off := 101) 102 dX5_joined_1 (by decide) (by rw [c3]; decide) (by decide) ?_
        refine n_iload_n (i := 1) dX5_joined_102 rfl rfl ?_
        refine n_i2l dX5_joined_103 ?_
        refine n_iload_n (i := 2) dX5_joined_104 rfl rfl ?_
        refine n_i2l dX5_joined_105 ?_
        refine n_lmul dX5_joined_106 ?_
        obtain ⟨q10, hq10, h⟩ := yb_bind h
        refine p_callSi (As := [.long ((a1.toInt64) * (a2.toInt64))]) (t_X5_brought hq10) cs_X5_66 rfl rfl (Nat.le_of_ble_eq_true rfl) dX5_joined_107 (yb_rok (Nat.le_of_ble_eq_true rfl) (by decide)) ⟨rfl, rfl⟩ ⟨Nat.le_refl _, Nat.le_refl _⟩ (fun k11 => ?_)
        cases h
        exact n_iret dX5_joined_110 rfl rfl (Nat.le_refl _) (Nat.le_refl _) ⟨rfl, rfl⟩
      · have h := yb_ifn c3 h
        by_cases c4 : a0 = (43 : Int32)
        · have h := yb_ifp c4 h
          refine n_lookup (off := 83) 84 dX5_joined_1 (by decide) (by rw [c4]; decide) (by decide) ?_
          refine n_iload_n (i := 1) dX5_joined_84 rfl rfl ?_
          refine n_i2l dX5_joined_85 ?_
          refine n_iload_n (i := 2) dX5_joined_86 rfl rfl ?_
          refine n_i2l dX5_joined_87 ?_
          refine n_ladd dX5_joined_88 ?_
          obtain ⟨q12, hq12, h⟩ := yb_bind h
          refine p_callSi (As := [.long ((a1.toInt64) + (a2.toInt64))]) (t_X5_brought hq12) cs_X5_66 rfl rfl (Nat.le_of_ble_eq_true rfl) dX5_joined_89 (yb_rok (Nat.le_of_ble_eq_true rfl) (by decide)) ⟨rfl, rfl⟩ ⟨Nat.le_refl _, Nat.le_refl _⟩ (fun k13 => ?_)
          cases h
          exact n_iret dX5_joined_92 rfl rfl (Nat.le_refl _) (Nat.le_refl _) ⟨rfl, rfl⟩
        · have h := yb_ifn c4 h
          by_cases c5 : a0 = (45 : Int32)
          · have h := yb_ifp c5 h
            refine n_lookup (off := 92) 93 dX5_joined_1 (by decide) (by rw [c5]; decide) (by decide) ?_
            refine n_iload_n (i := 1) dX5_joined_93 rfl rfl ?_
            refine n_i2l dX5_joined_94 ?_
            refine n_iload_n (i := 2) dX5_joined_95 rfl rfl ?_
            refine n_i2l dX5_joined_96 ?_
            refine n_lsub dX5_joined_97 ?_
            obtain ⟨q14, hq14, h⟩ := yb_bind h
            refine p_callSi (As := [.long ((a1.toInt64) - (a2.toInt64))]) (t_X5_brought hq14) cs_X5_66 rfl rfl (Nat.le_of_ble_eq_true rfl) dX5_joined_98 (yb_rok (Nat.le_of_ble_eq_true rfl) (by decide)) ⟨rfl, rfl⟩ ⟨Nat.le_refl _, Nat.le_refl _⟩ (fun k15 => ?_)
            cases h
            exact n_iret dX5_joined_101 rfl rfl (Nat.le_refl _) (Nat.le_refl _) ⟨rfl, rfl⟩
          · have h := yb_ifn c5 h
            by_cases c6 : a0 = (47 : Int32)
            · have h := yb_ifp c6 h
              refine n_lookup (off := 110) 111 dX5_joined_1 (by decide) (by rw [c6]; decide) (by decide) ?_
              refine n_iload_n (i := 2) dX5_joined_111 rfl rfl ?_
              refine n_if_ne 119 dX5_joined_112 (by decide) (fun c16 => ?_) (fun c16 => ?_)
              · have h := yb_ifn c16 h
                refine n_iload_n (i := 1) dX5_joined_119 rfl rfl ?_
                refine n_iload_n (i := 2) dX5_joined_120 rfl rfl ?_
                obtain ⟨v17, hv17, h⟩ := yb_bind h
                refine p_dv hv17 dX5_joined_121 ?_
                cases h
                exact n_iret dX5_joined_122 rfl rfl (Nat.le_refl _) (Nat.le_refl _) ⟨rfl, rfl⟩
              · have h := yb_ifp c16 h
                refine n_iconst (0 : Int32) dX5_joined_115 ic_0 ?_
                refine n_goto 122 dX5_joined_116 (by decide) ?_
                cases h
                exact n_iret dX5_joined_122 rfl rfl (Nat.le_refl _) (Nat.le_refl _) ⟨rfl, rfl⟩
            · have h := yb_ifn c6 h
              by_cases c7 : a0 = (60 : Int32)
              · have h := yb_ifp c7 h
                refine n_lookup (off := 122) 123 dX5_joined_1 (by decide) (by rw [c7]; decide) (by decide) ?_
                refine n_iload_n (i := 1) dX5_joined_123 rfl rfl ?_
                refine n_iload_n (i := 2) dX5_joined_124 rfl rfl ?_
                refine n_icmp_ge 132 dX5_joined_125 (by decide) (fun c18 => ?_) (fun c18 => ?_)
                · have h := yb_ifp c18 h
                  refine n_iconst (0 : Int32) dX5_joined_132 ic_0 ?_
                  cases h
                  exact n_iret dX5_joined_133 rfl rfl (Nat.le_refl _) (Nat.le_refl _) ⟨rfl, rfl⟩
                · have h := yb_ifn c18 h
                  refine n_iconst (1 : Int32) dX5_joined_128 ic_1 ?_
                  refine n_goto 133 dX5_joined_129 (by decide) ?_
                  cases h
                  exact n_iret dX5_joined_133 rfl rfl (Nat.le_refl _) (Nat.le_refl _) ⟨rfl, rfl⟩
              · have h := yb_ifn c7 h
                by_cases c8 : a0 = (61 : Int32)
                · have h := yb_ifp c8 h
                  refine n_lookup (off := 144) 145 dX5_joined_1 (by decide) (by rw [c8]; decide) (by decide) ?_
                  refine n_iload_n (i := 1) dX5_joined_145 rfl rfl ?_
                  refine n_iload_n (i := 2) dX5_joined_146 rfl rfl ?_
                  refine n_icmp_ne 154 dX5_joined_147 (by decide) (fun c19 => ?_) (fun c19 => ?_)
                  · have h := yb_ifn c19 h
                    refine n_iconst (0 : Int32) dX5_joined_154 ic_0 ?_
                    cases h
                    exact n_iret dX5_joined_155 rfl rfl (Nat.le_refl _) (Nat.le_refl _) ⟨rfl, rfl⟩
                  · have h := yb_ifp c19 h
                    refine n_iconst (1 : Int32) dX5_joined_150 ic_1 ?_
                    refine n_goto 155 dX5_joined_151 (by decide) ?_
                    cases h
                    exact n_iret dX5_joined_155 rfl rfl (Nat.le_refl _) (Nat.le_refl _) ⟨rfl, rfl⟩
                · have h := yb_ifn c8 h
                  by_cases c9 : a0 = (62 : Int32)
                  · have h := yb_ifp c9 h
                    refine n_lookup (off := 133) 134 dX5_joined_1 (by decide) (by rw [c9]; decide) (by decide) ?_
                    refine n_iload_n (i := 1) dX5_joined_134 rfl rfl ?_
                    refine n_iload_n (i := 2) dX5_joined_135 rfl rfl ?_
                    refine n_icmp_le 143 dX5_joined_136 (by decide) (fun c20 => ?_) (fun c20 => ?_)
                    · have h := yb_ifp c20 h
                      refine n_iconst (0 : Int32) dX5_joined_143 ic_0 ?_
                      cases h
                      exact n_iret dX5_joined_144 rfl rfl (Nat.le_refl _) (Nat.le_refl _) ⟨rfl, rfl⟩
                    · have h := yb_ifn c20 h
                      refine n_iconst (1 : Int32) dX5_joined_139 ic_1 ?_
                      refine n_goto 144 dX5_joined_140 (by decide) ?_
                      cases h
                      exact n_iret dX5_joined_144 rfl rfl (Nat.le_refl _) (Nat.le_refl _) ⟨rfl, rfl⟩
                  · have h := yb_ifn c9 h
                    refine n_lookup (off := 163) 164 dX5_joined_1 (by decide) ((lv_osw c1 (by decide)).trans ((lv_osw c2 (by decide)).trans ((lv_osw c3 (by decide)).trans ((lv_osw c4 (by decide)).trans ((lv_osw c5 (by decide)).trans ((lv_osw c6 (by decide)).trans ((lv_osw c7 (by decide)).trans ((lv_osw c8 (by decide)).trans ((lv_osw c9 (by decide)).trans rfl))))))))) (by decide) ?_
                    refine n_iconst (0 : Int32) dX5_joined_164 ic_0 ?_
                    cases h
                    exact n_iret dX5_joined_165 rfl rfl (Nat.le_refl _) (Nat.le_refl _) ⟨rfl, rfl⟩
set_option maxHeartbeats 4000000 in
set_option maxRecDepth 20000 in
theorem t_X5_unwritten {G : yb_G} {X : List (FieldType × Nat)} {a0 : Int32} {s : yb_S} {out : Int32} (h : f_X5_unwritten a0 s = some out) : Ct G yX5_unwritten cX5_unwritten 1 (Option.some .int) (yb_rm 1) [.int a0] (yb_mk s X) (yb_qi X s out) := by
  refine Ct.of (own := RX5) (ini := false) (vs := [some (.int a0)]) ⟨rfl, by decide +kernel⟩ (fun h => by cases h) (Nat.le_of_ble_eq_true rfl) rfl ?_
  unfold f_X5_unwritten at h
  refine n_iload_n (i := 0) dX5_unwritten_0 rfl rfl ?_
  by_cases c1 : a0 = (2 : Int32)
  · have h := yb_ifp c1 h
    refine n_lookup (off := 27) 28 dX5_unwritten_1 (by decide) (by rw [c1]; decide) (by decide) ?_
    refine n_bipush (30 : Int32) dX5_unwritten_28 bp_30 ?_
    cases h
    exact n_iret dX5_unwritten_30 rfl rfl (Nat.le_refl _) (Nat.le_refl _) ⟨rfl, rfl⟩
  · have h := yb_ifn c1 h
    by_cases c2 : a0 = (4 : Int32)
    · have h := yb_ifp c2 h
      refine n_lookup (off := 30) 31 dX5_unwritten_1 (by decide) (by rw [c2]; decide) (by decide) ?_
      refine n_iconst (1 : Int32) dX5_unwritten_31 ic_1 ?_
      cases h
      exact n_iret dX5_unwritten_32 rfl rfl (Nat.le_refl _) (Nat.le_refl _) ⟨rfl, rfl⟩
    · have h := yb_ifn c2 h
      refine n_lookup (off := 32) 33 dX5_unwritten_1 (by decide) ((lv_osw c1 (by decide)).trans ((lv_osw c2 (by decide)).trans rfl)) (by decide) ?_
      refine n_iconst (0 : Int32) dX5_unwritten_33 ic_0 ?_
      cases h
      exact n_iret dX5_unwritten_34 rfl rfl (Nat.le_refl _) (Nat.le_refl _) ⟨rfl, rfl⟩
set_option maxHeartbeats 4000000 in
set_option maxRecDepth 20000 in
theorem tj_X5_valueOf_91_196 {G : yb_G} {X : List (FieldType × Nat)} {s : yb_S} {out : (Int32 × yb_S)} (h : j_X5_valueOf_91_196 s = some out) : Rn G RX5 cX5_valueOf 7 (Option.some .int) false (yb_rm 3) (yb_qi X out.2 out.1) 0 0 196 [some (.ref (yb_ad G 54)), none, none, none, none, none, none] [] (yb_mk s X) := by
  unfold j_X5_valueOf_91_196 at h
  refine n_aload_n (i := 0) dX5_valueOf_196 rfl rfl ?_
  refine p_getr fl_X5_33 (sh_54 _ _) rfl (rR_54_7 _ _) dX5_valueOf_197 ?_
  refine n_iconst (0 : Int32) dX5_valueOf_200 ic_0 ?_
  obtain ⟨v9, hv9, h⟩ := yb_bind h
  refine p_iald hv9 (sh_90 _ _) dX5_valueOf_201 ?_
  cases h
  exact n_iret dX5_valueOf_202 rfl rfl (Nat.le_refl _) (Nat.le_refl _) ⟨rfl, rfl⟩
set_option maxHeartbeats 4000000 in
set_option maxRecDepth 20000 in
theorem tj_X5_valueOf_91_190 {G : yb_G} {X : List (FieldType × Nat)} {rc27 : (Int32 → Int32 → yb_S → Option (Int32 × yb_S))} {x1 : Int32} {x2 : Int32} {x4 : Int32} {x5 : Int32} {s : yb_S} {out : (Int32 × yb_S)} (hrc27 : ∀ (x4' : Int32) (x5' : Int32) (s' : yb_S), rc27 x4' x5' s' = some out → Rn G RX5 cX5_valueOf 7 (Option.some .int) false (yb_rm 3) (yb_qi X out.2 out.1) 0 0 27 [some (.ref (yb_ad G 54)), some (.int x1), some (.int x2), some (.ref (yb_ad G 91)), some (.int x4'), some (.int x5'), none] [] (yb_mk s' X)) (h : j_X5_valueOf_91_190 rc27 x1 x2 x4 x5 s = some out) : Rn G RX5 cX5_valueOf 7 (Option.some .int) false (yb_rm 3) (yb_qi X out.2 out.1) 0 0 190 [some (.ref (yb_ad G 54)), some (.int x1), some (.int x2), some (.ref (yb_ad G 91)), some (.int x4), some (.int x5), none] [] (yb_mk s X) := by
  unfold j_X5_valueOf_91_190 at h
  refine n_iinc (vs' := [some (.ref (yb_ad G 54)), some (.int x1), some (.int x2), some (.ref (yb_ad G 91)), some (.int x4), some (.int (x5 + (1 : Int32))), none]) dX5_valueOf_190 rfl (ii_1 _) (Nat.le_of_ble_eq_true rfl) rfl rfl ?_
  refine n_goto 27 dX5_valueOf_193 (by decide) ?_
  exact p_jump (hrc27 x4 (x5 + (1 : Int32)) s h) (And.intro rfl (And.intro rfl (And.intro rfl (And.intro rfl (And.intro rfl (And.intro rfl trivial))))))
set_option maxHeartbeats 4000000 in
set_option maxRecDepth 20000 in
theorem tj_X5_valueOf_91_108 {G : yb_G} {X : List (FieldType × Nat)} {rc27 : (Int32 → Int32 → yb_S → Option (Int32 × yb_S))} {x1 : Int32} {x2 : Int32} {x4 : Int32} {x5 : Int32} {y0 : Int32} {y1 : Int32} {s : yb_S} {out : (Int32 × yb_S)} (hrc27 : ∀ (x4' : Int32) (x5' : Int32) (s' : yb_S), rc27 x4' x5' s' = some out → Rn G RX5 cX5_valueOf 7 (Option.some .int) false (yb_rm 3) (yb_qi X out.2 out.1) 0 0 27 [some (.ref (yb_ad G 54)), some (.int x1), some (.int x2), some (.ref (yb_ad G 91)), some (.int x4'), some (.int x5'), none] [] (yb_mk s' X)) (h : j_X5_valueOf_91_108 rc27 x1 x2 x4 x5 y0 y1 s = some out) : Rn G RX5 cX5_valueOf 7 (Option.some .int) false (yb_rm 3) (yb_qi X out.2 out.1) 0 0 108 [some (.ref (yb_ad G 54)), some (.int x1), some (.int x2), some (.ref (yb_ad G 91)), some (.int x4), some (.int x5), none] [.int y0, .int y1, .ref (yb_ad G 90)] (yb_mk s X) := by
  unfold j_X5_valueOf_91_108 at h
  obtain ⟨s17, hs17, h⟩ := yb_bind h
  refine p_iast hs17 (sh_90 _ _) dX5_valueOf_108 ?_
  refine n_iinc (vs' := [some (.ref (yb_ad G 54)), some (.int x1), some (.int x2), some (.ref (yb_ad G 91)), some (.int (x4 + (1 : Int32))), some (.int x5), none]) dX5_valueOf_109 rfl (ii_1 _) (Nat.le_of_ble_eq_true rfl) rfl rfl ?_
  refine n_goto 190 dX5_valueOf_112 (by decide) ?_
  exact p_jump (tj_X5_valueOf_91_190 hrc27 h) (And.intro rfl (And.intro rfl (And.intro rfl (And.intro rfl (And.intro rfl (And.intro rfl trivial))))))
set_option maxHeartbeats 4000000 in
set_option maxRecDepth 20000 in
theorem tj_X5_valueOf_91_74 {G : yb_G} {X : List (FieldType × Nat)} {rc27 : (Int32 → Int32 → yb_S → Option (Int32 × yb_S))} {x1 : Int32} {x2 : Int32} {x4 : Int32} {x5 : Int32} {x6 : Int32} {s : yb_S} {out : (Int32 × yb_S)} (hrc27 : ∀ (x4' : Int32) (x5' : Int32) (s' : yb_S), rc27 x4' x5' s' = some out → Rn G RX5 cX5_valueOf 7 (Option.some .int) false (yb_rm 3) (yb_qi X out.2 out.1) 0 0 27 [some (.ref (yb_ad G 54)), some (.int x1), some (.int x2), some (.ref (yb_ad G 91)), some (.int x4'), some (.int x5'), none] [] (yb_mk s' X)) (h : j_X5_valueOf_91_74 rc27 x1 x2 x4 x5 x6 s = some out) : Rn G RX5 cX5_valueOf 7 (Option.some .int) false (yb_rm 3) (yb_qi X out.2 out.1) 0 0 74 [some (.ref (yb_ad G 54)), some (.int x1), some (.int x2), some (.ref (yb_ad G 91)), some (.int x4), some (.int x5), some (.int x6)] [] (yb_mk s X) := by
  unfold j_X5_valueOf_91_74 at h
  refine n_iload dX5_valueOf_74 rfl ?_
  refine n_bipush (64 : Int32) dX5_valueOf_76 bp_64 ?_
  refine n_icmp_ge 190 dX5_valueOf_78 (by decide) (fun c14 => ?_) (fun c14 => ?_)
  · have h := yb_ifp c14 h
    exact p_jump (tj_X5_valueOf_91_190 hrc27 h) (And.intro rfl (And.intro rfl (And.intro rfl (And.intro rfl (And.intro rfl (And.intro rfl trivial))))))
  · have h := yb_ifn c14 h
    refine n_aload_n (i := 0) dX5_valueOf_81 rfl rfl ?_
    refine p_getr fl_X5_33 (sh_54 _ _) rfl (rR_54_7 _ _) dX5_valueOf_82 ?_
    refine n_iload dX5_valueOf_85 rfl ?_
    refine n_iload dX5_valueOf_87 rfl ?_
    refine n_sipush (1000 : Int32) dX5_valueOf_89 sp_1000 ?_
    refine n_icmp_lt 104 dX5_valueOf_92 (by decide) (fun c15 => ?_) (fun c15 => ?_)
    · have h := yb_ifp c15 h
      refine n_aload_n (i := 3) dX5_valueOf_104 rfl rfl ?_
      refine n_iload dX5_valueOf_105 rfl ?_
      obtain ⟨v16, hv16, h⟩ := yb_bind h
      refine p_iald hv16 (sh_91 _ _) dX5_valueOf_107 ?_
      exact p_jump (tj_X5_valueOf_91_108 hrc27 h) (And.intro rfl (And.intro rfl (And.intro rfl (And.intro rfl (And.intro rfl (And.intro rfl trivial))))))
    · have h := yb_ifn c15 h
      refine n_iload dX5_valueOf_95 rfl ?_
      refine n_sipush (1000 : Int32) dX5_valueOf_97 sp_1000 ?_
      refine n_isub dX5_valueOf_100 ?_
      refine n_goto 108 dX5_valueOf_101 (by decide) ?_
      exact p_jump (tj_X5_valueOf_91_108 hrc27 h) (And.intro rfl (And.intro rfl (And.intro rfl (And.intro rfl (And.intro rfl (And.intro rfl trivial))))))
set_option maxHeartbeats 4000000 in
set_option maxRecDepth 20000 in
theorem t_l_X5_valueOf_91_27 {G : yb_G} {X : List (FieldType × Nat)} {x1 : Int32} {x2 : Int32} {out : (Int32 × yb_S)} : ∀ (k0 : Nat) (x4 : Int32) (x5 : Int32) (s : yb_S), l_X5_valueOf_91_27 x1 x2 k0 x4 x5 s = some out → Rn G RX5 cX5_valueOf 7 (Option.some .int) false (yb_rm 3) (yb_qi X out.2 out.1) 0 0 27 [some (.ref (yb_ad G 54)), some (.int x1), some (.int x2), some (.ref (yb_ad G 91)), some (.int x4), some (.int x5), none] [] (yb_mk s X) := by
  intro k0
  induction k0 with
  | zero => intro x4 x5 s h; cases h
  | succ k0 ih =>
    intro x4 x5 s h
    have h : f_X5_valueOf_91_27 (fun x4 x5 s => l_X5_valueOf_91_27 x1 x2 k0 x4 x5 s) x1 x2 x4 x5 s = some out := h
    have hrc27 := ih
    unfold f_X5_valueOf_91_27 at h
    refine n_iload dX5_valueOf_27 rfl ?_
    refine n_aload_n (i := 0) dX5_valueOf_29 rfl rfl ?_
    refine p_getr fl_X5_30 (sh_54 _ _) rfl (rR_54_6 _ _) dX5_valueOf_30 ?_
    refine n_iload_n (i := 1) dX5_valueOf_33 rfl rfl ?_
    obtain ⟨r6, hr6, h⟩ := yb_bind h
    refine p_aald hr6 (sh_79 _ _) (by decide) rfl (rF_79 _ _) dX5_valueOf_34 ?_
    refine n_iload_n (i := 2) dX5_valueOf_35 rfl rfl ?_
    obtain ⟨v7, hv7, h⟩ := yb_bind h
    refine p_iald hv7 (shF_79 hr6 _ _) dX5_valueOf_36 ?_
    refine n_icmp_ge 196 dX5_valueOf_37 (by decide) (fun c8 => ?_) (fun c8 => ?_)
    · have h := yb_ifp c8 h
      exact p_jump (tj_X5_valueOf_91_196 h) (And.intro rfl trivial)
    · have h := yb_ifn c8 h
      refine n_iload dX5_valueOf_40 rfl ?_
      refine n_sipush (500 : Int32) dX5_valueOf_42 sp_500 ?_
      refine n_icmp_ge 196 dX5_valueOf_45 (by decide) (fun c10 => ?_) (fun c10 => ?_)
      · have h := yb_ifp c10 h
        exact p_jump (tj_X5_valueOf_91_196 h) (And.intro rfl trivial)
      · have h := yb_ifn c10 h
        refine n_aload_n (i := 0) dX5_valueOf_48 rfl rfl ?_
        refine p_getr fl_X5_24 (sh_54 _ _) rfl (rR_54_4 _ _) dX5_valueOf_49 ?_
        refine n_iload_n (i := 1) dX5_valueOf_52 rfl rfl ?_
        obtain ⟨r11, hr11, h⟩ := yb_bind h
        refine p_aald hr11 (sh_57 _ _) (by decide) rfl (rF_57 _ _) dX5_valueOf_53 ?_
        refine n_iload dX5_valueOf_54 rfl ?_
        obtain ⟨v12, hv12, h⟩ := yb_bind h
        refine p_iald hv12 (shF_57 hr11 _ _) dX5_valueOf_56 ?_
        refine n_istore (i := 6) (vs' := [some (.ref (yb_ad G 54)), some (.int x1), some (.int x2), some (.ref (yb_ad G 91)), some (.int x4), some (.int x5), some (.int v12)]) dX5_valueOf_57 (Nat.le_of_ble_eq_true rfl) rfl rfl ?_
        refine n_iload dX5_valueOf_59 rfl ?_
        refine n_sipush (1000 : Int32) dX5_valueOf_61 sp_1000 ?_
        refine n_icmp_ge 74 dX5_valueOf_64 (by decide) (fun c13 => ?_) (fun c13 => ?_)
        · have h := yb_ifp c13 h
          exact p_jump (tj_X5_valueOf_91_74 hrc27 h) (And.intro rfl (And.intro rfl (And.intro rfl (And.intro rfl (And.intro rfl (And.intro rfl (And.intro rfl trivial)))))))
        · have h := yb_ifn c13 h
          refine n_iload dX5_valueOf_67 rfl ?_
          refine n_bipush (18 : Int32) dX5_valueOf_69 bp_18 ?_
          refine n_icmp_ge 115 dX5_valueOf_71 (by decide) (fun c18 => ?_) (fun c18 => ?_)
          · have h := yb_ifp c18 h
            refine n_iload dX5_valueOf_115 rfl ?_
            refine n_bipush (22 : Int32) dX5_valueOf_117 bp_22 ?_
            refine n_icmp_ne 151 dX5_valueOf_119 (by decide) (fun c19 => ?_) (fun c19 => ?_)
            · have h := yb_ifn c19 h
              refine n_iload dX5_valueOf_151 rfl ?_
              refine n_iconst (2 : Int32) dX5_valueOf_153 ic_2 ?_
              refine n_icmp_lt 190 dX5_valueOf_154 (by decide) (fun c20 => ?_) (fun c20 => ?_)
              · have h := yb_ifp c20 h
                exact p_jump (tj_X5_valueOf_91_190 hrc27 h) (And.intro rfl (And.intro rfl (And.intro rfl (And.intro rfl (And.intro rfl (And.intro rfl trivial))))))
              · have h := yb_ifn c20 h
                refine n_iinc (vs' := [some (.ref (yb_ad G 54)), some (.int x1), some (.int x2), some (.ref (yb_ad G 91)), some (.int (x4 + (-1 : Int32))), some (.int x5), some (.int v12)]) dX5_valueOf_157 rfl (ii_m1 _) (Nat.le_of_ble_eq_true rfl) rfl rfl ?_
                refine n_aload_n (i := 0) dX5_valueOf_160 rfl rfl ?_
                refine p_getr fl_X5_33 (sh_54 _ _) rfl (rR_54_7 _ _) dX5_valueOf_161 ?_
                refine n_iload dX5_valueOf_164 rfl ?_
                refine n_iconst (1 : Int32) dX5_valueOf_166 ic_1 ?_
                refine n_isub dX5_valueOf_167 ?_
                refine n_iload dX5_valueOf_168 rfl ?_
                refine n_aload_n (i := 0) dX5_valueOf_170 rfl rfl ?_
                refine p_getr fl_X5_33 (sh_54 _ _) rfl (rR_54_7 _ _) dX5_valueOf_171 ?_
                refine n_iload dX5_valueOf_174 rfl ?_
                refine n_iconst (1 : Int32) dX5_valueOf_176 ic_1 ?_
                refine n_isub dX5_valueOf_177 ?_
                obtain ⟨v21, hv21, h⟩ := yb_bind h
                refine p_iald hv21 (sh_90 _ _) dX5_valueOf_178 ?_
                refine n_aload_n (i := 0) dX5_valueOf_179 rfl rfl ?_
                refine p_getr fl_X5_33 (sh_54 _ _) rfl (rR_54_7 _ _) dX5_valueOf_180 ?_
                refine n_iload dX5_valueOf_183 rfl ?_
                obtain ⟨v22, hv22, h⟩ := yb_bind h
                refine p_iald hv22 (sh_90 _ _) dX5_valueOf_185 ?_
                obtain ⟨q23, hq23, h⟩ := yb_bind h
                refine p_callSi (As := [.int v12, .int v21, .int v22]) (t_X5_joined hq23) cs_X5_62 rfl rfl (Nat.le_of_ble_eq_true rfl) dX5_valueOf_186 (yb_rok (Nat.le_of_ble_eq_true rfl) (by decide)) ⟨rfl, rfl⟩ ⟨Nat.le_refl _, Nat.le_refl _⟩ (fun k24 => ?_)
                obtain ⟨s25, hs25, h⟩ := yb_bind h
                refine p_iast hs25 (sh_90 _ _) dX5_valueOf_189 ?_
                exact p_jump (tj_X5_valueOf_91_190 hrc27 h) (And.intro rfl (And.intro rfl (And.intro rfl (And.intro rfl (And.intro rfl (And.intro rfl trivial))))))
            · have h := yb_ifp c19 h
              refine n_iload dX5_valueOf_122 rfl ?_
              refine n_iconst (1 : Int32) dX5_valueOf_124 ic_1 ?_
              refine n_icmp_lt 190 dX5_valueOf_125 (by decide) (fun c26 => ?_) (fun c26 => ?_)
              · have h := yb_ifp c26 h
                exact p_jump (tj_X5_valueOf_91_190 hrc27 h) (And.intro rfl (And.intro rfl (And.intro rfl (And.intro rfl (And.intro rfl (And.intro rfl trivial))))))
              · have h := yb_ifn c26 h
                refine n_aload_n (i := 0) dX5_valueOf_128 rfl rfl ?_
                refine p_getr fl_X5_33 (sh_54 _ _) rfl (rR_54_7 _ _) dX5_valueOf_129 ?_
                refine n_iload dX5_valueOf_132 rfl ?_
                refine n_iconst (1 : Int32) dX5_valueOf_134 ic_1 ?_
                refine n_isub dX5_valueOf_135 ?_
                refine n_iconst (1 : Int32) dX5_valueOf_136 ic_1 ?_
                refine n_aload_n (i := 0) dX5_valueOf_137 rfl rfl ?_
                refine p_getr fl_X5_33 (sh_54 _ _) rfl (rR_54_7 _ _) dX5_valueOf_138 ?_
                refine n_iload dX5_valueOf_141 rfl ?_
                refine n_iconst (1 : Int32) dX5_valueOf_143 ic_1 ?_
                refine n_isub dX5_valueOf_144 ?_
                obtain ⟨v27, hv27, h⟩ := yb_bind h
                refine p_iald hv27 (sh_90 _ _) dX5_valueOf_145 ?_
                refine n_isub dX5_valueOf_146 ?_
                obtain ⟨s28, hs28, h⟩ := yb_bind h
                refine p_iast hs28 (sh_90 _ _) dX5_valueOf_147 ?_
                refine n_goto 190 dX5_valueOf_148 (by decide) ?_
                exact p_jump (tj_X5_valueOf_91_190 hrc27 h) (And.intro rfl (And.intro rfl (And.intro rfl (And.intro rfl (And.intro rfl (And.intro rfl trivial))))))
          · have h := yb_ifn c18 h
            exact p_jump (tj_X5_valueOf_91_74 hrc27 h) (And.intro rfl (And.intro rfl (And.intro rfl (And.intro rfl (And.intro rfl (And.intro rfl (And.intro rfl trivial)))))))
set_option maxHeartbeats 4000000 in
set_option maxRecDepth 20000 in
theorem tl_X5_valueOf_91_27 {G : yb_G} {X : List (FieldType × Nat)} {x1 : Int32} {x2 : Int32} {out : (Int32 × yb_S)} {x4 : Int32} {x5 : Int32} {s : yb_S} (h : l_X5_valueOf_91_27 x1 x2 yb_N x4 x5 s = some out) : Rn G RX5 cX5_valueOf 7 (Option.some .int) false (yb_rm 3) (yb_qi X out.2 out.1) 0 0 27 [some (.ref (yb_ad G 54)), some (.int x1), some (.int x2), some (.ref (yb_ad G 91)), some (.int x4), some (.int x5), none] [] (yb_mk s X) := t_l_X5_valueOf_91_27 _ _ _ _ h
set_option maxHeartbeats 4000000 in
set_option maxRecDepth 20000 in
theorem t_X5_valueOf_91 {G : yb_G} {X : List (FieldType × Nat)} {a1 : Int32} {a2 : Int32} {s : yb_S} {out : (Int32 × yb_S)} (h : f_X5_valueOf_91 a1 a2 s = some out) : Ct G yX5_valueOf cX5_valueOf 7 (Option.some .int) (yb_rm 3) [.ref (yb_ad G 54), .int a1, .int a2, .ref (yb_ad G 91)] (yb_mk s X) (yb_qi X out.2 out.1) := by
  refine Ct.of (own := RX5) (ini := false) (vs := [some (.ref (yb_ad G 54)), some (.int a1), some (.int a2), some (.ref (yb_ad G 91)), none, none, none]) ⟨rfl, by decide +kernel⟩ (fun h => by cases h) (Nat.le_of_ble_eq_true rfl) rfl ?_
  unfold f_X5_valueOf_91 at h
  refine n_aload_n (i := 0) dX5_valueOf_0 rfl rfl ?_
  refine n_iload_n (i := 1) dX5_valueOf_1 rfl rfl ?_
  refine n_iload_n (i := 2) dX5_valueOf_2 rfl rfl ?_
  obtain ⟨q1, hq1, h⟩ := yb_bind h
  refine p_callVi (As := [.int a1, .int a2]) (t_X5_hasClause hq1) cv_X5_54 (sh_54 _ _) rfl rfl (Nat.le_of_ble_eq_true rfl) dX5_valueOf_3 (yb_rok (Nat.le_of_ble_eq_true rfl) (by decide)) ⟨rfl, rfl⟩ ⟨Nat.le_refl _, Nat.le_refl _⟩ (fun k2 => ?_)
  refine n_if_ne 14 dX5_valueOf_6 (by decide) (fun c3 => ?_) (fun c3 => ?_)
  · have h := yb_ifn c3 h
    refine n_iconst (0 : Int32) dX5_valueOf_14 ic_0 ?_
    refine n_istore (i := 4) (vs' := [some (.ref (yb_ad G 54)), some (.int a1), some (.int a2), some (.ref (yb_ad G 91)), some (.int (0 : Int32)), none, none]) dX5_valueOf_15 (Nat.le_of_ble_eq_true rfl) rfl rfl ?_
    refine n_aload_n (i := 0) dX5_valueOf_17 rfl rfl ?_
    refine p_getr fl_X5_27 (sh_54 _ _) rfl (rR_54_5 _ _) dX5_valueOf_18 ?_
    refine n_iload_n (i := 1) dX5_valueOf_21 rfl rfl ?_
    obtain ⟨r4, hr4, h⟩ := yb_bind h
    refine p_aald hr4 (sh_68 _ _) (by decide) rfl (rF_68 _ _) dX5_valueOf_22 ?_
    refine n_iload_n (i := 2) dX5_valueOf_23 rfl rfl ?_
    obtain ⟨v5, hv5, h⟩ := yb_bind h
    refine p_iald hv5 (shF_68 hr4 _ _) dX5_valueOf_24 ?_
    refine n_istore (i := 5) (vs' := [some (.ref (yb_ad G 54)), some (.int a1), some (.int a2), some (.ref (yb_ad G 91)), some (.int (0 : Int32)), some (.int v5), none]) dX5_valueOf_25 (Nat.le_of_ble_eq_true rfl) rfl rfl ?_
    exact p_jump (tl_X5_valueOf_91_27 h) (And.intro rfl (And.intro rfl (And.intro rfl (And.intro rfl (And.intro rfl (And.intro rfl trivial))))))
  · have h := yb_ifp c3 h
    refine n_iload_n (i := 2) dX5_valueOf_9 rfl rfl ?_
    obtain ⟨q29, hq29, h⟩ := yb_bind h
    refine p_callSi (As := [.int a2]) (t_X5_unwritten hq29) cs_X5_58 rfl rfl (Nat.le_of_ble_eq_true rfl) dX5_valueOf_10 (yb_rok (Nat.le_of_ble_eq_true rfl) (by decide)) ⟨rfl, rfl⟩ ⟨Nat.le_refl _, Nat.le_refl _⟩ (fun k30 => ?_)
    cases h
    exact n_iret dX5_valueOf_13 rfl rfl (Nat.le_refl _) (Nat.le_refl _) ⟨rfl, rfl⟩
set_option maxHeartbeats 4000000 in
set_option maxRecDepth 20000 in
theorem t_X8_nameFamily {G : yb_G} {X : List (FieldType × Nat)} {a1 : Int32} {s : yb_S} {out : yb_S} (h : f_X8_nameFamily a1 s = some out) : Ct G yX8_nameFamily cX8_nameFamily 2 none (yb_rm 1) [.ref (yb_ad G 1), .int a1] (yb_mk s X) (yb_qv X out) := by
  refine Ct.of (own := RX8) (ini := false) (vs := [some (.ref (yb_ad G 1)), some (.int a1)]) ⟨rfl, by decide +kernel⟩ (fun h => by cases h) (Nat.le_of_ble_eq_true rfl) rfl ?_
  unfold f_X8_nameFamily at h
  refine n_aload_n (i := 0) dX8_nameFamily_0 rfl rfl ?_
  refine p_getr fl_X8_46 (sh_1 _ _) rfl (rR_1_8 _ _) dX8_nameFamily_1 ?_
  refine n_iconst (0 : Int32) dX8_nameFamily_4 ic_0 ?_
  refine n_aload_n (i := 0) dX8_nameFamily_5 rfl rfl ?_
  refine p_getr fl_X8_28 (sh_1 _ _) rfl (rR_1_2 _ _) dX8_nameFamily_6 ?_
  refine p_getr fl_X8_61 (sh_21 _ _) rfl (rR_21_1 _ _) dX8_nameFamily_9 ?_
  refine n_iload_n (i := 1) dX8_nameFamily_12 rfl rfl ?_
  obtain ⟨v1, hv1, h⟩ := yb_bind h
  refine p_iald hv1 (sh_22 _ _) dX8_nameFamily_13 ?_
  obtain ⟨s2, hs2, h⟩ := yb_bind h
  refine p_iast hs2 (sh_91 _ _) dX8_nameFamily_14 ?_
  refine n_aload_n (i := 0) dX8_nameFamily_15 rfl rfl ?_
  refine p_getr fl_X8_46 (sh_1 _ _) rfl (rR_1_8 _ _) dX8_nameFamily_16 ?_
  refine n_iconst (1 : Int32) dX8_nameFamily_19 ic_1 ?_
  refine n_aload_n (i := 0) dX8_nameFamily_20 rfl rfl ?_
  refine p_getr fl_X8_28 (sh_1 _ _) rfl (rR_1_2 _ _) dX8_nameFamily_21 ?_
  refine p_getr fl_X8_83 (sh_21 _ _) rfl (rR_21_2 _ _) dX8_nameFamily_24 ?_
  refine n_iload_n (i := 1) dX8_nameFamily_27 rfl rfl ?_
  obtain ⟨v3, hv3, h⟩ := yb_bind h
  refine p_iald hv3 (sh_23 _ _) dX8_nameFamily_28 ?_
  obtain ⟨s4, hs4, h⟩ := yb_bind h
  refine p_iast hs4 (sh_91 _ _) dX8_nameFamily_29 ?_
  refine n_aload_n (i := 0) dX8_nameFamily_30 rfl rfl ?_
  refine p_getr fl_X8_46 (sh_1 _ _) rfl (rR_1_8 _ _) dX8_nameFamily_31 ?_
  refine n_iconst (2 : Int32) dX8_nameFamily_34 ic_2 ?_
  refine n_aload_n (i := 0) dX8_nameFamily_35 rfl rfl ?_
  refine p_getr fl_X8_28 (sh_1 _ _) rfl (rR_1_2 _ _) dX8_nameFamily_36 ?_
  refine p_getr fl_X8_125 (sh_21 _ _) rfl (rR_21_3 _ _) dX8_nameFamily_39 ?_
  refine n_iload_n (i := 1) dX8_nameFamily_42 rfl rfl ?_
  obtain ⟨v5, hv5, h⟩ := yb_bind h
  refine p_iald hv5 (sh_24 _ _) dX8_nameFamily_43 ?_
  obtain ⟨s6, hs6, h⟩ := yb_bind h
  refine p_iast hs6 (sh_91 _ _) dX8_nameFamily_44 ?_
  refine n_aload_n (i := 0) dX8_nameFamily_45 rfl rfl ?_
  refine p_getr fl_X8_46 (sh_1 _ _) rfl (rR_1_8 _ _) dX8_nameFamily_46 ?_
  refine n_iconst (3 : Int32) dX8_nameFamily_49 ic_3 ?_
  refine n_aload_n (i := 0) dX8_nameFamily_50 rfl rfl ?_
  refine p_getr fl_X8_28 (sh_1 _ _) rfl (rR_1_2 _ _) dX8_nameFamily_51 ?_
  refine p_getr fl_X8_134 (sh_21 _ _) rfl (rR_21_4 _ _) dX8_nameFamily_54 ?_
  refine n_iload_n (i := 1) dX8_nameFamily_57 rfl rfl ?_
  obtain ⟨v7, hv7, h⟩ := yb_bind h
  refine p_iald hv7 (sh_25 _ _) dX8_nameFamily_58 ?_
  obtain ⟨s8, hs8, h⟩ := yb_bind h
  refine p_iast hs8 (sh_91 _ _) dX8_nameFamily_59 ?_
  refine n_aload_n (i := 0) dX8_nameFamily_60 rfl rfl ?_
  refine p_getr fl_X8_46 (sh_1 _ _) rfl (rR_1_8 _ _) dX8_nameFamily_61 ?_
  refine n_iconst (4 : Int32) dX8_nameFamily_64 ic_4 ?_
  refine n_aload_n (i := 0) dX8_nameFamily_65 rfl rfl ?_
  refine p_getr fl_X8_28 (sh_1 _ _) rfl (rR_1_2 _ _) dX8_nameFamily_66 ?_
  refine p_getr fl_X8_161 (sh_21 _ _) rfl (rR_21_5 _ _) dX8_nameFamily_69 ?_
  refine n_iload_n (i := 1) dX8_nameFamily_72 rfl rfl ?_
  obtain ⟨v9, hv9, h⟩ := yb_bind h
  refine p_iald hv9 (sh_26 _ _) dX8_nameFamily_73 ?_
  obtain ⟨s10, hs10, h⟩ := yb_bind h
  refine p_iast hs10 (sh_91 _ _) dX8_nameFamily_74 ?_
  refine n_aload_n (i := 0) dX8_nameFamily_75 rfl rfl ?_
  refine p_getr fl_X8_46 (sh_1 _ _) rfl (rR_1_8 _ _) dX8_nameFamily_76 ?_
  refine n_iconst (5 : Int32) dX8_nameFamily_79 ic_5 ?_
  refine n_aload_n (i := 0) dX8_nameFamily_80 rfl rfl ?_
  refine p_getr fl_X8_28 (sh_1 _ _) rfl (rR_1_2 _ _) dX8_nameFamily_81 ?_
  refine p_getr fl_X8_198 (sh_21 _ _) rfl (rR_21_6 _ _) dX8_nameFamily_84 ?_
  refine n_iload_n (i := 1) dX8_nameFamily_87 rfl rfl ?_
  obtain ⟨v11, hv11, h⟩ := yb_bind h
  refine p_iald hv11 (sh_27 _ _) dX8_nameFamily_88 ?_
  obtain ⟨s12, hs12, h⟩ := yb_bind h
  refine p_iast hs12 (sh_91 _ _) dX8_nameFamily_89 ?_
  refine n_aload_n (i := 0) dX8_nameFamily_90 rfl rfl ?_
  refine p_getr fl_X8_46 (sh_1 _ _) rfl (rR_1_8 _ _) dX8_nameFamily_91 ?_
  refine n_bipush (6 : Int32) dX8_nameFamily_94 bp_6 ?_
  refine n_aload_n (i := 0) dX8_nameFamily_96 rfl rfl ?_
  refine p_getr fl_X8_28 (sh_1 _ _) rfl (rR_1_2 _ _) dX8_nameFamily_97 ?_
  refine p_getr fl_X8_98 (sh_21 _ _) rfl (rR_21_10 _ _) dX8_nameFamily_100 ?_
  refine n_iload_n (i := 1) dX8_nameFamily_103 rfl rfl ?_
  obtain ⟨v13, hv13, h⟩ := yb_bind h
  refine p_iald hv13 (sh_31 _ _) dX8_nameFamily_104 ?_
  obtain ⟨s14, hs14, h⟩ := yb_bind h
  refine p_iast hs14 (sh_91 _ _) dX8_nameFamily_105 ?_
  cases h
  exact n_vret dX8_nameFamily_106 rfl (Nat.le_refl _) (Nat.le_refl _) ⟨rfl, rfl⟩
set_option maxHeartbeats 4000000 in
set_option maxRecDepth 20000 in
theorem t_X8_wishMet {G : yb_G} {X : List (FieldType × Nat)} {a1 : Int32} {a2 : Int32} {s : yb_S} {out : Int32} (h : f_X8_wishMet a1 a2 s = some out) : Ct G yX8_wishMet cX8_wishMet 3 (Option.some .int) (yb_rm 1) [.ref (yb_ad G 1), .int a1, .int a2] (yb_mk s X) (yb_qi X s out) := by
  refine Ct.of (own := RX8) (ini := false) (vs := [some (.ref (yb_ad G 1)), some (.int a1), some (.int a2)]) ⟨rfl, by decide +kernel⟩ (fun h => by cases h) (Nat.le_of_ble_eq_true rfl) rfl ?_
  unfold f_X8_wishMet at h
  refine n_aload_n (i := 0) dX8_wishMet_0 rfl rfl ?_
  refine p_getr fl_X8_28 (sh_1 _ _) rfl (rR_1_2 _ _) dX8_wishMet_1 ?_
  refine p_getr fl_X8_110 (sh_21 _ _) rfl (rR_21_12 _ _) dX8_wishMet_4 ?_
  refine n_iload_n (i := 1) dX8_wishMet_7 rfl rfl ?_
  obtain ⟨v1, hv1, h⟩ := yb_bind h
  refine p_iald hv1 (sh_33 _ _) dX8_wishMet_8 ?_
  refine n_iload_n (i := 2) dX8_wishMet_9 rfl rfl ?_
  refine n_icmp_ne 17 dX8_wishMet_10 (by decide) (fun c2 => ?_) (fun c2 => ?_)
  · have h := yb_ifn c2 h
    refine n_iconst (0 : Int32) dX8_wishMet_17 ic_0 ?_
    cases h
    exact n_iret dX8_wishMet_18 rfl rfl (Nat.le_refl _) (Nat.le_refl _) ⟨rfl, rfl⟩
  · have h := yb_ifp c2 h
    refine n_iconst (1 : Int32) dX8_wishMet_13 ic_1 ?_
    refine n_goto 18 dX8_wishMet_14 (by decide) ?_
    cases h
    exact n_iret dX8_wishMet_18 rfl rfl (Nat.le_refl _) (Nat.le_refl _) ⟨rfl, rfl⟩
set_option maxHeartbeats 4000000 in
set_option maxRecDepth 20000 in
theorem t_J6_bitCount_0f7a4 {G : yb_G} {X : List (FieldType × Nat)} {a0 : Int32} {s : yb_S} {out : Int32} (h : f_J6_bitCount_0f7a4 a0 s = some out) : Ct G yJ6_bitCount_0f7a4 cJ6_bitCount_0f7a4 1 (Option.some .int) (yb_rm 1) [.int a0] (yb_mk s X) (yb_qi X s out) := by
  refine Ct.of (own := RJ6) (ini := false) (vs := [some (.int a0)]) ⟨rfl, by decide +kernel⟩ (fun h => by cases h) (Nat.le_of_ble_eq_true rfl) rfl ?_
  unfold f_J6_bitCount_0f7a4 at h
  refine n_iload_n (i := 0) dJ6_bitCount_0f7a4_0 rfl rfl ?_
  refine n_iload_n (i := 0) dJ6_bitCount_0f7a4_1 rfl rfl ?_
  refine n_iconst (1 : Int32) dJ6_bitCount_0f7a4_2 ic_1 ?_
  refine n_iushr dJ6_bitCount_0f7a4_3 ?_
  refine n_ldcw (1431655765 : Int32) k_J6_265 dJ6_bitCount_0f7a4_4 ?_
  refine n_iand dJ6_bitCount_0f7a4_7 ?_
  refine n_isub dJ6_bitCount_0f7a4_8 ?_
  refine n_istore_n (i := 0) (vs' := [some (.int (a0 - ((a0.toUInt32 >>> ((1 : Int32).toUInt32 &&& Int32.toUInt32 31)).toInt32 &&& (1431655765 : Int32))))]) dJ6_bitCount_0f7a4_9 rfl (Nat.le_of_ble_eq_true rfl) rfl rfl ?_
  refine n_iload_n (i := 0) dJ6_bitCount_0f7a4_10 rfl rfl ?_
  refine n_ldcw (858993459 : Int32) k_J6_266 dJ6_bitCount_0f7a4_11 ?_
  refine n_iand dJ6_bitCount_0f7a4_14 ?_
  refine n_iload_n (i := 0) dJ6_bitCount_0f7a4_15 rfl rfl ?_
  refine n_iconst (2 : Int32) dJ6_bitCount_0f7a4_16 ic_2 ?_
  refine n_iushr dJ6_bitCount_0f7a4_17 ?_
  refine n_ldcw (858993459 : Int32) k_J6_266 dJ6_bitCount_0f7a4_18 ?_
  refine n_iand dJ6_bitCount_0f7a4_21 ?_
  refine n_iadd dJ6_bitCount_0f7a4_22 ?_
  refine n_istore_n (i := 0) (vs' := [some (.int (((a0 - ((a0.toUInt32 >>> ((1 : Int32).toUInt32 &&& Int32.toUInt32 31)).toInt32 &&& (1431655765 : Int32))) &&& (858993459 : Int32)) + (((a0 - ((a0.toUInt32 >>> ((1 : Int32).toUInt32 &&& Int32.toUInt32 31)).toInt32 &&& (1431655765 : Int32))).toUInt32 >>> ((2 : Int32).toUInt32 &&& Int32.toUInt32 31)).toInt32 &&& (858993459 : Int32))))]) dJ6_bitCount_0f7a4_23 rfl (Nat.le_of_ble_eq_true rfl) rfl rfl ?_
  refine n_iload_n (i := 0) dJ6_bitCount_0f7a4_24 rfl rfl ?_
  refine n_iload_n (i := 0) dJ6_bitCount_0f7a4_25 rfl rfl ?_
  refine n_iconst (4 : Int32) dJ6_bitCount_0f7a4_26 ic_4 ?_
  refine n_iushr dJ6_bitCount_0f7a4_27 ?_
  refine n_iadd dJ6_bitCount_0f7a4_28 ?_
  refine n_ldcw (252645135 : Int32) k_J6_267 dJ6_bitCount_0f7a4_29 ?_
  refine n_iand dJ6_bitCount_0f7a4_32 ?_
  refine n_istore_n (i := 0) (vs' := [some (.int (((((a0 - ((a0.toUInt32 >>> ((1 : Int32).toUInt32 &&& Int32.toUInt32 31)).toInt32 &&& (1431655765 : Int32))) &&& (858993459 : Int32)) + (((a0 - ((a0.toUInt32 >>> ((1 : Int32).toUInt32 &&& Int32.toUInt32 31)).toInt32 &&& (1431655765 : Int32))).toUInt32 >>> ((2 : Int32).toUInt32 &&& Int32.toUInt32 31)).toInt32 &&& (858993459 : Int32))) + ((((a0 - ((a0.toUInt32 >>> ((1 : Int32).toUInt32 &&& Int32.toUInt32 31)).toInt32 &&& (1431655765 : Int32))) &&& (858993459 : Int32)) + (((a0 - ((a0.toUInt32 >>> ((1 : Int32).toUInt32 &&& Int32.toUInt32 31)).toInt32 &&& (1431655765 : Int32))).toUInt32 >>> ((2 : Int32).toUInt32 &&& Int32.toUInt32 31)).toInt32 &&& (858993459 : Int32))).toUInt32 >>> ((4 : Int32).toUInt32 &&& Int32.toUInt32 31)).toInt32) &&& (252645135 : Int32)))]) dJ6_bitCount_0f7a4_33 rfl (Nat.le_of_ble_eq_true rfl) rfl rfl ?_
  refine n_iload_n (i := 0) dJ6_bitCount_0f7a4_34 rfl rfl ?_
  refine n_iload_n (i := 0) dJ6_bitCount_0f7a4_35 rfl rfl ?_
  refine n_bipush (8 : Int32) dJ6_bitCount_0f7a4_36 bp_8 ?_
  refine n_iushr dJ6_bitCount_0f7a4_38 ?_
  refine n_iadd dJ6_bitCount_0f7a4_39 ?_
  refine n_istore_n (i := 0) (vs' := [some (.int ((((((a0 - ((a0.toUInt32 >>> ((1 : Int32).toUInt32 &&& Int32.toUInt32 31)).toInt32 &&& (1431655765 : Int32))) &&& (858993459 : Int32)) + (((a0 - ((a0.toUInt32 >>> ((1 : Int32).toUInt32 &&& Int32.toUInt32 31)).toInt32 &&& (1431655765 : Int32))).toUInt32 >>> ((2 : Int32).toUInt32 &&& Int32.toUInt32 31)).toInt32 &&& (858993459 : Int32))) + ((((a0 - ((a0.toUInt32 >>> ((1 : Int32).toUInt32 &&& Int32.toUInt32 31)).toInt32 &&& (1431655765 : Int32))) &&& (858993459 : Int32)) + (((a0 - ((a0.toUInt32 >>> ((1 : Int32).toUInt32 &&& Int32.toUInt32 31)).toInt32 &&& (1431655765 : Int32))).toUInt32 >>> ((2 : Int32).toUInt32 &&& Int32.toUInt32 31)).toInt32 &&& (858993459 : Int32))).toUInt32 >>> ((4 : Int32).toUInt32 &&& Int32.toUInt32 31)).toInt32) &&& (252645135 : Int32)) + ((((((a0 - ((a0.toUInt32 >>> ((1 : Int32).toUInt32 &&& Int32.toUInt32 31)).toInt32 &&& (1431655765 : Int32))) &&& (858993459 : Int32)) + (((a0 - ((a0.toUInt32 >>> ((1 : Int32).toUInt32 &&& Int32.toUInt32 31)).toInt32 &&& (1431655765 : Int32))).toUInt32 >>> ((2 : Int32).toUInt32 &&& Int32.toUInt32 31)).toInt32 &&& (858993459 : Int32))) + ((((a0 - ((a0.toUInt32 >>> ((1 : Int32).toUInt32 &&& Int32.toUInt32 31)).toInt32 &&& (1431655765 : Int32))) &&& (858993459 : Int32)) + (((a0 - ((a0.toUInt32 >>> ((1 : Int32).toUInt32 &&& Int32.toUInt32 31)).toInt32 &&& (1431655765 : Int32))).toUInt32 >>> ((2 : Int32).toUInt32 &&& Int32.toUInt32 31)).toInt32 &&& (858993459 : Int32))).toUInt32 >>> ((4 : Int32).toUInt32 &&& Int32.toUInt32 31)).toInt32) &&& (252645135 : Int32)).toUInt32 >>> ((8 : Int32).toUInt32 &&& Int32.toUInt32 31)).toInt32))]) dJ6_bitCount_0f7a4_40 rfl (Nat.le_of_ble_eq_true rfl) rfl rfl ?_
  refine n_iload_n (i := 0) dJ6_bitCount_0f7a4_41 rfl rfl ?_
  refine n_iload_n (i := 0) dJ6_bitCount_0f7a4_42 rfl rfl ?_
  refine n_bipush (16 : Int32) dJ6_bitCount_0f7a4_43 bp_16 ?_
  refine n_iushr dJ6_bitCount_0f7a4_45 ?_
  refine n_iadd dJ6_bitCount_0f7a4_46 ?_
  refine n_istore_n (i := 0) (vs' := [some (.int (((((((a0 - ((a0.toUInt32 >>> ((1 : Int32).toUInt32 &&& Int32.toUInt32 31)).toInt32 &&& (1431655765 : Int32))) &&& (858993459 : Int32)) + (((a0 - ((a0.toUInt32 >>> ((1 : Int32).toUInt32 &&& Int32.toUInt32 31)).toInt32 &&& (1431655765 : Int32))).toUInt32 >>> ((2 : Int32).toUInt32 &&& Int32.toUInt32 31)).toInt32 &&& (858993459 : Int32))) + ((((a0 - ((a0.toUInt32 >>> ((1 : Int32).toUInt32 &&& Int32.toUInt32 31)).toInt32 &&& (1431655765 : Int32))) &&& (858993459 : Int32)) + (((a0 - ((a0.toUInt32 >>> ((1 : Int32).toUInt32 &&& Int32.toUInt32 31)).toInt32 &&& (1431655765 : Int32))).toUInt32 >>> ((2 : Int32).toUInt32 &&& Int32.toUInt32 31)).toInt32 &&& (858993459 : Int32))).toUInt32 >>> ((4 : Int32).toUInt32 &&& Int32.toUInt32 31)).toInt32) &&& (252645135 : Int32)) + ((((((a0 - ((a0.toUInt32 >>> ((1 : Int32).toUInt32 &&& Int32.toUInt32 31)).toInt32 &&& (1431655765 : Int32))) &&& (858993459 : Int32)) + (((a0 - ((a0.toUInt32 >>> ((1 : Int32).toUInt32 &&& Int32.toUInt32 31)).toInt32 &&& (1431655765 : Int32))).toUInt32 >>> ((2 : Int32).toUInt32 &&& Int32.toUInt32 31)).toInt32 &&& (858993459 : Int32))) + ((((a0 - ((a0.toUInt32 >>> ((1 : Int32).toUInt32 &&& Int32.toUInt32 31)).toInt32 &&& (1431655765 : Int32))) &&& (858993459 : Int32)) + (((a0 - ((a0.toUInt32 >>> ((1 : Int32).toUInt32 &&& Int32.toUInt32 31)).toInt32 &&& (1431655765 : Int32))).toUInt32 >>> ((2 : Int32).toUInt32 &&& Int32.toUInt32 31)).toInt32 &&& (858993459 : Int32))).toUInt32 >>> ((4 : Int32).toUInt32 &&& Int32.toUInt32 31)).toInt32) &&& (252645135 : Int32)).toUInt32 >>> ((8 : Int32).toUInt32 &&& Int32.toUInt32 31)).toInt32) + (((((((a0 - ((a0.toUInt32 >>> ((1 : Int32).toUInt32 &&& Int32.toUInt32 31)).toInt32 &&& (1431655765 : Int32))) &&& (858993459 : Int32)) + (((a0 - ((a0.toUInt32 >>> ((1 : Int32).toUInt32 &&& Int32.toUInt32 31)).toInt32 &&& (1431655765 : Int32))).toUInt32 >>> ((2 : Int32).toUInt32 &&& Int32.toUInt32 31)).toInt32 &&& (858993459 : Int32))) + ((((a0 - ((a0.toUInt32 >>> ((1 : Int32).toUInt32 &&& Int32.toUInt32 31)).toInt32 &&& (1431655765 : Int32))) &&& (858993459 : Int32)) + (((a0 - ((a0.toUInt32 >>> ((1 : Int32).toUInt32 &&& Int32.toUInt32 31)).toInt32 &&& (1431655765 : Int32))).toUInt32 >>> ((2 : Int32).toUInt32 &&& Int32.toUInt32 31)).toInt32 &&& (858993459 : Int32))).toUInt32 >>> ((4 : Int32).toUInt32 &&& Int32.toUInt32 31)).toInt32) &&& (252645135 : Int32)) + ((((((a0 - ((a0.toUInt32 >>> ((1 : Int32).toUInt32 &&& Int32.toUInt32 31)).toInt32 &&& (1431655765 : Int32))) &&& (858993459 : Int32)) + (((a0 - ((a0.toUInt32 >>> ((1 : Int32).toUInt32 &&& Int32.toUInt32 31)).toInt32 &&& (1431655765 : Int32))).toUInt32 >>> ((2 : Int32).toUInt32 &&& Int32.toUInt32 31)).toInt32 &&& (858993459 : Int32))) + ((((a0 - ((a0.toUInt32 >>> ((1 : Int32).toUInt32 &&& Int32.toUInt32 31)).toInt32 &&& (1431655765 : Int32))) &&& (858993459 : Int32)) + (((a0 - ((a0.toUInt32 >>> ((1 : Int32).toUInt32 &&& Int32.toUInt32 31)).toInt32 &&& (1431655765 : Int32))).toUInt32 >>> ((2 : Int32).toUInt32 &&& Int32.toUInt32 31)).toInt32 &&& (858993459 : Int32))).toUInt32 >>> ((4 : Int32).toUInt32 &&& Int32.toUInt32 31)).toInt32) &&& (252645135 : Int32)).toUInt32 >>> ((8 : Int32).toUInt32 &&& Int32.toUInt32 31)).toInt32).toUInt32 >>> ((16 : Int32).toUInt32 &&& Int32.toUInt32 31)).toInt32))]) dJ6_bitCount_0f7a4_47 rfl (Nat.le_of_ble_eq_true rfl) rfl rfl ?_
  refine n_iload_n (i := 0) dJ6_bitCount_0f7a4_48 rfl rfl ?_
  refine n_bipush (63 : Int32) dJ6_bitCount_0f7a4_49 bp_63 ?_
  refine n_iand dJ6_bitCount_0f7a4_51 ?_
  cases h
  exact n_iret dJ6_bitCount_0f7a4_52 rfl rfl (Nat.le_refl _) (Nat.le_refl _) ⟨rfl, rfl⟩
set_option maxHeartbeats 4000000 in
set_option maxRecDepth 20000 in
theorem t_X8_kinIn {G : yb_G} {X : List (FieldType × Nat)} {a1 : Int32} {a2 : Int32} {s : yb_S} {out : Int32} (h : f_X8_kinIn a1 a2 s = some out) : Ct G yX8_kinIn cX8_kinIn 3 (Option.some .int) (yb_rm 2) [.ref (yb_ad G 1), .int a1, .int a2] (yb_mk s X) (yb_qi X s out) := by
  refine Ct.of (own := RX8) (ini := false) (vs := [some (.ref (yb_ad G 1)), some (.int a1), some (.int a2)]) ⟨rfl, by decide +kernel⟩ (fun h => by cases h) (Nat.le_of_ble_eq_true rfl) rfl ?_
  unfold f_X8_kinIn at h
  refine n_aload_n (i := 0) dX8_kinIn_0 rfl rfl ?_
  refine p_getr fl_X8_35 (sh_1 _ _) rfl (rR_1_3 _ _) dX8_kinIn_1 ?_
  refine p_getr fl_X8_101 (sh_41 _ _) rfl (rR_41_13 _ _) dX8_kinIn_4 ?_
  refine n_iload_n (i := 1) dX8_kinIn_7 rfl rfl ?_
  obtain ⟨v1, hv1, h⟩ := yb_bind h
  refine p_iald hv1 (sh_53 _ _) dX8_kinIn_8 ?_
  refine n_aload_n (i := 0) dX8_kinIn_9 rfl rfl ?_
  refine p_getr fl_X8_12 (sh_1 _ _) rfl (rR_1_0 _ _) dX8_kinIn_10 ?_
  refine p_getr fl_X8_84 (sh_2 _ _) rfl (rR_2_9 _ _) dX8_kinIn_13 ?_
  refine n_iload_n (i := 2) dX8_kinIn_16 rfl rfl ?_
  obtain ⟨v2, hv2, h⟩ := yb_bind h
  refine p_iald hv2 (sh_11 _ _) dX8_kinIn_17 ?_
  refine n_iand dX8_kinIn_18 ?_
  obtain ⟨q3, hq3, h⟩ := yb_bind h
  refine p_callSi (As := [.int (v1 &&& v2)]) (t_J6_bitCount_0f7a4 hq3) cs_X8_104 rfl rfl (Nat.le_of_ble_eq_true rfl) dX8_kinIn_19 (yb_rok (Nat.le_of_ble_eq_true rfl) (by decide)) ⟨rfl, rfl⟩ ⟨Nat.le_refl _, Nat.le_refl _⟩ (fun k4 => ?_)
  cases h
  exact n_iret dX8_kinIn_22 rfl rfl (Nat.le_refl _) (Nat.le_refl _) ⟨rfl, rfl⟩
set_option maxHeartbeats 4000000 in
set_option maxRecDepth 20000 in
theorem tj_X8_seatsFor_26 {G : yb_G} {X : List (FieldType × Nat)} {x2 : Int32} {y0 : Int32} {s : yb_S} {out : Int32} (h : j_X8_seatsFor_26 x2 y0 s = some out) : Rn G RX8 cX8_seatsFor 4 (Option.some .int) false (yb_rm 1) (yb_qi X s out) 0 0 26 [some (.ref (yb_ad G 1)), none, some (.int x2), none] [.int y0] (yb_mk s X) := by
  unfold j_X8_seatsFor_26 at h
  refine n_istore_n (i := 3) (vs' := [some (.ref (yb_ad G 1)), none, some (.int x2), some (.int y0)]) dX8_seatsFor_26 rfl (Nat.le_of_ble_eq_true rfl) rfl rfl ?_
  refine n_aload_n (i := 0) dX8_seatsFor_27 rfl rfl ?_
  refine p_getr fl_X8_12 (sh_1 _ _) rfl (rR_1_0 _ _) dX8_seatsFor_28 ?_
  refine p_getr fl_X8_113 (sh_2 _ _) rfl (rR_2_3 _ _) dX8_seatsFor_31 ?_
  refine n_iload_n (i := 2) dX8_seatsFor_34 rfl rfl ?_
  obtain ⟨v3, hv3, h⟩ := yb_bind h
  refine p_iald hv3 (sh_5 _ _) dX8_seatsFor_35 ?_
  refine n_aload_n (i := 0) dX8_seatsFor_36 rfl rfl ?_
  refine p_getr fl_X8_12 (sh_1 _ _) rfl (rR_1_0 _ _) dX8_seatsFor_37 ?_
  refine p_getr fl_X8_80 (sh_2 _ _) rfl (rR_2_8 _ _) dX8_seatsFor_40 ?_
  refine n_iload_n (i := 2) dX8_seatsFor_43 rfl rfl ?_
  obtain ⟨v4, hv4, h⟩ := yb_bind h
  refine p_iald hv4 (sh_10 _ _) dX8_seatsFor_44 ?_
  refine n_isub dX8_seatsFor_45 ?_
  refine n_iload_n (i := 3) dX8_seatsFor_46 rfl rfl ?_
  refine n_iadd dX8_seatsFor_47 ?_
  cases h
  exact n_iret dX8_seatsFor_48 rfl rfl (Nat.le_refl _) (Nat.le_refl _) ⟨rfl, rfl⟩
set_option maxHeartbeats 4000000 in
set_option maxRecDepth 20000 in
theorem t_X8_seatsFor {G : yb_G} {X : List (FieldType × Nat)} {a1 : Int32} {a2 : Int32} {s : yb_S} {out : Int32} (h : f_X8_seatsFor a1 a2 s = some out) : Ct G yX8_seatsFor cX8_seatsFor 4 (Option.some .int) (yb_rm 1) [.ref (yb_ad G 1), .int a1, .int a2] (yb_mk s X) (yb_qi X s out) := by
  refine Ct.of (own := RX8) (ini := false) (vs := [some (.ref (yb_ad G 1)), some (.int a1), some (.int a2), none]) ⟨rfl, by decide +kernel⟩ (fun h => by cases h) (Nat.le_of_ble_eq_true rfl) rfl ?_
  unfold f_X8_seatsFor at h
  refine n_aload_n (i := 0) dX8_seatsFor_0 rfl rfl ?_
  refine p_getr fl_X8_28 (sh_1 _ _) rfl (rR_1_2 _ _) dX8_seatsFor_1 ?_
  refine p_getr fl_X8_75 (sh_21 _ _) rfl (rR_21_9 _ _) dX8_seatsFor_4 ?_
  refine n_iload_n (i := 1) dX8_seatsFor_7 rfl rfl ?_
  obtain ⟨v1, hv1, h⟩ := yb_bind h
  refine p_iald hv1 (sh_30 _ _) dX8_seatsFor_8 ?_
  refine n_iload_n (i := 2) dX8_seatsFor_9 rfl rfl ?_
  refine n_icmp_ne 25 dX8_seatsFor_10 (by decide) (fun c2 => ?_) (fun c2 => ?_)
  · have h := yb_ifn c2 h
    refine n_iconst (0 : Int32) dX8_seatsFor_25 ic_0 ?_
    exact p_jump (tj_X8_seatsFor_26 h) (And.intro rfl (And.intro rfl trivial))
  · have h := yb_ifp c2 h
    refine n_aload_n (i := 0) dX8_seatsFor_13 rfl rfl ?_
    refine p_getr fl_X8_28 (sh_1 _ _) rfl (rR_1_2 _ _) dX8_seatsFor_14 ?_
    refine p_getr fl_X8_83 (sh_21 _ _) rfl (rR_21_2 _ _) dX8_seatsFor_17 ?_
    refine n_iload_n (i := 1) dX8_seatsFor_20 rfl rfl ?_
    obtain ⟨v5, hv5, h⟩ := yb_bind h
    refine p_iald hv5 (sh_23 _ _) dX8_seatsFor_21 ?_
    refine n_goto 26 dX8_seatsFor_22 (by decide) ?_
    exact p_jump (tj_X8_seatsFor_26 h) (And.intro rfl (And.intro rfl trivial))
set_option maxHeartbeats 4000000 in
set_option maxRecDepth 20000 in
theorem t_X10_wants {G : yb_G} {X : List (FieldType × Nat)} {a1 : Int32} {a2 : Int32} {s : yb_S} {out : Int32} (h : f_X10_wants a1 a2 s = some out) : Ct G yX10_wants cX10_wants 3 (Option.some .boolean) (yb_rm 1) [.ref (yb_ad G 2), .int a1, .int a2] (yb_mk s X) (yb_qi X s out) := by
  refine Ct.of (own := RX10) (ini := false) (vs := [some (.ref (yb_ad G 2)), some (.int a1), some (.int a2)]) ⟨rfl, by decide +kernel⟩ (fun h => by cases h) (Nat.le_of_ble_eq_true rfl) rfl ?_
  unfold f_X10_wants at h
  refine n_iload_n (i := 1) dX10_wants_0 rfl rfl ?_
  refine n_if_lt 30 dX10_wants_1 (by decide) (fun c1 => ?_) (fun c1 => ?_)
  · have h := yb_ifp c1 h
    refine n_iconst (0 : Int32) dX10_wants_30 ic_0 ?_
    cases h
    exact n_iret dX10_wants_31 rfl (by decide) (Nat.le_refl _) (Nat.le_refl _) ⟨rfl, rfl⟩
  · have h := yb_ifn c1 h
    refine n_iload_n (i := 1) dX10_wants_4 rfl rfl ?_
    refine n_aload_n (i := 0) dX10_wants_5 rfl rfl ?_
    refine p_geti fl_X10_44 (sh_2 _ _) rfl dX10_wants_6 ?_
    refine n_icmp_ge 30 dX10_wants_9 (by decide) (fun c2 => ?_) (fun c2 => ?_)
    · have h := yb_ifp c2 h
      refine n_iconst (0 : Int32) dX10_wants_30 ic_0 ?_
      cases h
      exact n_iret dX10_wants_31 rfl (by decide) (Nat.le_refl _) (Nat.le_refl _) ⟨rfl, rfl⟩
    · have h := yb_ifn c2 h
      refine n_aload_n (i := 0) dX10_wants_12 rfl rfl ?_
      refine p_getr fl_X10_21 (sh_2 _ _) rfl (rR_2_4 _ _) dX10_wants_13 ?_
      refine n_iload_n (i := 1) dX10_wants_16 rfl rfl ?_
      obtain ⟨v3, hv3, h⟩ := yb_bind h
      refine p_iald hv3 (sh_6 _ _) dX10_wants_17 ?_
      refine n_iload_n (i := 2) dX10_wants_18 rfl rfl ?_
      refine n_ishr dX10_wants_19 ?_
      refine n_iconst (1 : Int32) dX10_wants_20 ic_1 ?_
      refine n_iand dX10_wants_21 ?_
      refine n_iconst (1 : Int32) dX10_wants_22 ic_1 ?_
      refine n_icmp_ne 30 dX10_wants_23 (by decide) (fun c4 => ?_) (fun c4 => ?_)
      · have h := yb_ifn c4 h
        refine n_iconst (0 : Int32) dX10_wants_30 ic_0 ?_
        cases h
        exact n_iret dX10_wants_31 rfl (by decide) (Nat.le_refl _) (Nat.le_refl _) ⟨rfl, rfl⟩
      · have h := yb_ifp c4 h
        refine n_iconst (1 : Int32) dX10_wants_26 ic_1 ?_
        refine n_goto 31 dX10_wants_27 (by decide) ?_
        cases h
        exact n_iret dX10_wants_31 rfl (by decide) (Nat.le_refl _) (Nat.le_refl _) ⟨rfl, rfl⟩
set_option maxHeartbeats 4000000 in
set_option maxRecDepth 20000 in
theorem tj_X8_nameHome_136 {G : yb_G} {X : List (FieldType × Nat)} {x3 : Int32} {y0 : Int32} {y1 : Int32} {s : yb_S} {out : yb_S} (h : j_X8_nameHome_136 x3 y0 y1 s = some out) : Rn G RX8 cX8_nameHome 4 none false (yb_rm 3) (yb_qv X out) 0 0 136 [some (.ref (yb_ad G 1)), none, none, some (.int x3)] [.int y0, .int y1, .ref (yb_ad G 91)] (yb_mk s X) := by
  unfold j_X8_nameHome_136 at h
  obtain ⟨s23, hs23, h⟩ := yb_bind h
  refine p_iast hs23 (sh_91 _ _) dX8_nameHome_136 ?_
  refine n_aload_n (i := 0) dX8_nameHome_137 rfl rfl ?_
  refine p_getr fl_X8_46 (sh_1 _ _) rfl (rR_1_8 _ _) dX8_nameHome_138 ?_
  refine n_bipush (15 : Int32) dX8_nameHome_141 bp_15 ?_
  refine n_aload_n (i := 0) dX8_nameHome_143 rfl rfl ?_
  refine p_getr fl_X8_12 (sh_1 _ _) rfl (rR_1_0 _ _) dX8_nameHome_144 ?_
  refine p_getr fl_X8_193 (sh_2 _ _) rfl (rR_2_6 _ _) dX8_nameHome_147 ?_
  refine n_iload_n (i := 3) dX8_nameHome_150 rfl rfl ?_
  obtain ⟨v24, hv24, h⟩ := yb_bind h
  refine p_iald hv24 (sh_8 _ _) dX8_nameHome_151 ?_
  obtain ⟨s25, hs25, h⟩ := yb_bind h
  refine p_iast hs25 (sh_91 _ _) dX8_nameHome_152 ?_
  cases h
  exact n_vret dX8_nameHome_153 rfl (Nat.le_refl _) (Nat.le_refl _) ⟨rfl, rfl⟩
set_option maxHeartbeats 4000000 in
set_option maxRecDepth 20000 in
theorem t_X8_nameHome {G : yb_G} {X : List (FieldType × Nat)} {a1 : Int32} {a2 : Int32} {s : yb_S} {out : yb_S} (h : f_X8_nameHome a1 a2 s = some out) : Ct G yX8_nameHome cX8_nameHome 4 none (yb_rm 3) [.ref (yb_ad G 1), .int a1, .int a2] (yb_mk s X) (yb_qv X out) := by
  refine Ct.of (own := RX8) (ini := false) (vs := [some (.ref (yb_ad G 1)), some (.int a1), some (.int a2), none]) ⟨rfl, by decide +kernel⟩ (fun h => by cases h) (Nat.le_of_ble_eq_true rfl) rfl ?_
  unfold f_X8_nameHome at h
  refine n_aload_n (i := 0) dX8_nameHome_0 rfl rfl ?_
  refine p_getr fl_X8_21 (sh_1 _ _) rfl (rR_1_1 _ _) dX8_nameHome_1 ?_
  refine p_getr fl_X8_69 (sh_13 _ _) rfl (rR_13_1 _ _) dX8_nameHome_4 ?_
  refine n_iload_n (i := 2) dX8_nameHome_7 rfl rfl ?_
  obtain ⟨v1, hv1, h⟩ := yb_bind h
  refine p_iald hv1 (sh_14 _ _) dX8_nameHome_8 ?_
  refine n_istore_n (i := 3) (vs' := [some (.ref (yb_ad G 1)), some (.int a1), some (.int a2), some (.int v1)]) dX8_nameHome_9 rfl (Nat.le_of_ble_eq_true rfl) rfl rfl ?_
  refine n_aload_n (i := 0) dX8_nameHome_10 rfl rfl ?_
  refine p_getr fl_X8_46 (sh_1 _ _) rfl (rR_1_8 _ _) dX8_nameHome_11 ?_
  refine n_bipush (7 : Int32) dX8_nameHome_14 bp_7 ?_
  refine n_aload_n (i := 0) dX8_nameHome_16 rfl rfl ?_
  refine n_iload_n (i := 1) dX8_nameHome_17 rfl rfl ?_
  refine n_iload_n (i := 3) dX8_nameHome_18 rfl rfl ?_
  obtain ⟨q2, hq2, h⟩ := yb_bind h
  refine p_callVi (As := [.int a1, .int v1]) (t_X8_wishMet hq2) cv_X8_201 (sh_1 _ _) rfl rfl (Nat.le_of_ble_eq_true rfl) dX8_nameHome_19 (yb_rok (Nat.le_of_ble_eq_true rfl) (by decide)) ⟨rfl, rfl⟩ ⟨Nat.le_refl _, Nat.le_refl _⟩ (fun k3 => ?_)
  obtain ⟨s4, hs4, h⟩ := yb_bind h
  refine p_iast hs4 (sh_91 _ _) dX8_nameHome_22 ?_
  refine n_aload_n (i := 0) dX8_nameHome_23 rfl rfl ?_
  refine p_getr fl_X8_46 (sh_1 _ _) rfl (rR_1_8 _ _) dX8_nameHome_24 ?_
  refine n_bipush (8 : Int32) dX8_nameHome_27 bp_8 ?_
  refine n_aload_n (i := 0) dX8_nameHome_29 rfl rfl ?_
  refine n_iload_n (i := 1) dX8_nameHome_30 rfl rfl ?_
  refine n_iload_n (i := 3) dX8_nameHome_31 rfl rfl ?_
  obtain ⟨q5, hq5, h⟩ := yb_bind h
  refine p_callVi (As := [.int a1, .int v1]) (t_X8_kinIn hq5) cv_X8_204 (sh_1 _ _) rfl rfl (Nat.le_of_ble_eq_true rfl) dX8_nameHome_32 (yb_rok (Nat.le_of_ble_eq_true rfl) (by decide)) ⟨rfl, rfl⟩ ⟨Nat.le_refl _, Nat.le_refl _⟩ (fun k6 => ?_)
  obtain ⟨s7, hs7, h⟩ := yb_bind h
  refine p_iast hs7 (sh_91 _ _) dX8_nameHome_35 ?_
  refine n_aload_n (i := 0) dX8_nameHome_36 rfl rfl ?_
  refine p_getr fl_X8_46 (sh_1 _ _) rfl (rR_1_8 _ _) dX8_nameHome_37 ?_
  refine n_bipush (9 : Int32) dX8_nameHome_40 bp_9 ?_
  refine n_aload_n (i := 0) dX8_nameHome_42 rfl rfl ?_
  refine p_getr fl_X8_21 (sh_1 _ _) rfl (rR_1_1 _ _) dX8_nameHome_43 ?_
  refine p_getr fl_X8_119 (sh_13 _ _) rfl (rR_13_2 _ _) dX8_nameHome_46 ?_
  refine n_iload_n (i := 2) dX8_nameHome_49 rfl rfl ?_
  obtain ⟨v8, hv8, h⟩ := yb_bind h
  refine p_iald hv8 (sh_15 _ _) dX8_nameHome_50 ?_
  obtain ⟨s9, hs9, h⟩ := yb_bind h
  refine p_iast hs9 (sh_91 _ _) dX8_nameHome_51 ?_
  refine n_aload_n (i := 0) dX8_nameHome_52 rfl rfl ?_
  refine p_getr fl_X8_46 (sh_1 _ _) rfl (rR_1_8 _ _) dX8_nameHome_53 ?_
  refine n_bipush (10 : Int32) dX8_nameHome_56 bp_10 ?_
  refine n_aload_n (i := 0) dX8_nameHome_58 rfl rfl ?_
  refine p_getr fl_X8_21 (sh_1 _ _) rfl (rR_1_1 _ _) dX8_nameHome_59 ?_
  refine p_getr fl_X8_122 (sh_13 _ _) rfl (rR_13_3 _ _) dX8_nameHome_62 ?_
  refine n_iload_n (i := 2) dX8_nameHome_65 rfl rfl ?_
  obtain ⟨v10, hv10, h⟩ := yb_bind h
  refine p_iald hv10 (sh_16 _ _) dX8_nameHome_66 ?_
  obtain ⟨s11, hs11, h⟩ := yb_bind h
  refine p_iast hs11 (sh_91 _ _) dX8_nameHome_67 ?_
  refine n_aload_n (i := 0) dX8_nameHome_68 rfl rfl ?_
  refine p_getr fl_X8_46 (sh_1 _ _) rfl (rR_1_8 _ _) dX8_nameHome_69 ?_
  refine n_bipush (11 : Int32) dX8_nameHome_72 bp_11 ?_
  refine n_aload_n (i := 0) dX8_nameHome_74 rfl rfl ?_
  refine p_getr fl_X8_12 (sh_1 _ _) rfl (rR_1_0 _ _) dX8_nameHome_75 ?_
  refine n_iload_n (i := 3) dX8_nameHome_78 rfl rfl ?_
  refine n_aload_n (i := 0) dX8_nameHome_79 rfl rfl ?_
  refine p_getr fl_X8_28 (sh_1 _ _) rfl (rR_1_2 _ _) dX8_nameHome_80 ?_
  refine p_getr fl_X8_110 (sh_21 _ _) rfl (rR_21_12 _ _) dX8_nameHome_83 ?_
  refine n_iload_n (i := 1) dX8_nameHome_86 rfl rfl ?_
  obtain ⟨v12, hv12, h⟩ := yb_bind h
  refine p_iald hv12 (sh_33 _ _) dX8_nameHome_87 ?_
  obtain ⟨q13, hq13, h⟩ := yb_bind h
  refine p_callVi (As := [.int v1, .int v12]) (t_X10_milesBetween hq13) cv_X8_155 (sh_2 _ _) rfl rfl (Nat.le_of_ble_eq_true rfl) dX8_nameHome_88 (yb_rok (Nat.le_of_ble_eq_true rfl) (by decide)) ⟨rfl, rfl⟩ ⟨Nat.le_refl _, Nat.le_refl _⟩ (fun k14 => ?_)
  obtain ⟨s15, hs15, h⟩ := yb_bind h
  refine p_iast hs15 (sh_91 _ _) dX8_nameHome_91 ?_
  refine n_aload_n (i := 0) dX8_nameHome_92 rfl rfl ?_
  refine p_getr fl_X8_46 (sh_1 _ _) rfl (rR_1_8 _ _) dX8_nameHome_93 ?_
  refine n_bipush (12 : Int32) dX8_nameHome_96 bp_12 ?_
  refine n_aload_n (i := 0) dX8_nameHome_98 rfl rfl ?_
  refine n_iload_n (i := 1) dX8_nameHome_99 rfl rfl ?_
  refine n_iload_n (i := 3) dX8_nameHome_100 rfl rfl ?_
  obtain ⟨q16, hq16, h⟩ := yb_bind h
  refine p_callVi (As := [.int a1, .int v1]) (t_X8_seatsFor hq16) cv_X8_151 (sh_1 _ _) rfl rfl (Nat.le_of_ble_eq_true rfl) dX8_nameHome_101 (yb_rok (Nat.le_of_ble_eq_true rfl) (by decide)) ⟨rfl, rfl⟩ ⟨Nat.le_refl _, Nat.le_refl _⟩ (fun k17 => ?_)
  obtain ⟨s18, hs18, h⟩ := yb_bind h
  refine p_iast hs18 (sh_91 _ _) dX8_nameHome_104 ?_
  refine n_aload_n (i := 0) dX8_nameHome_105 rfl rfl ?_
  refine p_getr fl_X8_46 (sh_1 _ _) rfl (rR_1_8 _ _) dX8_nameHome_106 ?_
  refine n_bipush (13 : Int32) dX8_nameHome_109 bp_13 ?_
  refine n_aload_n (i := 0) dX8_nameHome_111 rfl rfl ?_
  refine p_getr fl_X8_12 (sh_1 _ _) rfl (rR_1_0 _ _) dX8_nameHome_112 ?_
  refine n_iload_n (i := 3) dX8_nameHome_115 rfl rfl ?_
  refine n_aload_n (i := 0) dX8_nameHome_116 rfl rfl ?_
  refine p_getr fl_X8_28 (sh_1 _ _) rfl (rR_1_2 _ _) dX8_nameHome_117 ?_
  refine p_getr fl_X8_161 (sh_21 _ _) rfl (rR_21_5 _ _) dX8_nameHome_120 ?_
  refine n_iload_n (i := 1) dX8_nameHome_123 rfl rfl ?_
  obtain ⟨v19, hv19, h⟩ := yb_bind h
  refine p_iald hv19 (sh_26 _ _) dX8_nameHome_124 ?_
  obtain ⟨q20, hq20, h⟩ := yb_bind h
  refine p_callVi (As := [.int v1, .int v19]) (t_X10_wants hq20) cv_X8_164 (sh_2 _ _) rfl rfl (Nat.le_of_ble_eq_true rfl) dX8_nameHome_125 (yb_rok (Nat.le_of_ble_eq_true rfl) (by decide)) ⟨rfl, rfl⟩ ⟨Nat.le_refl _, Nat.le_refl _⟩ (fun k21 => ?_)
  refine n_if_eq 135 dX8_nameHome_128 (by decide) (fun c22 => ?_) (fun c22 => ?_)
  · have h := yb_ifp c22 h
    refine n_iconst (0 : Int32) dX8_nameHome_135 ic_0 ?_
    exact p_jump (tj_X8_nameHome_136 h) (And.intro rfl (And.intro rfl trivial))
  · have h := yb_ifn c22 h
    refine n_iconst (1 : Int32) dX8_nameHome_131 ic_1 ?_
    refine n_goto 136 dX8_nameHome_132 (by decide) ?_
    exact p_jump (tj_X8_nameHome_136 h) (And.intro rfl (And.intro rfl trivial))
set_option maxHeartbeats 4000000 in
set_option maxRecDepth 20000 in
theorem tj_X8_tells_173 {G : yb_G} {X : List (FieldType × Nat)} {x1 : Int32} {x6 : Int32} {s : yb_S} {out : (Int32 × yb_S)} (h : j_X8_tells_173 x1 x6 s = some out) : Rn G RX8 cX8_tells 8 (Option.some .int) false (yb_rm 4) (yb_qi X out.2 out.1) 0 0 173 [some (.ref (yb_ad G 1)), some (.int x1), none, none, none, none, some (.int x6), none] [] (yb_mk s X) := by
  unfold j_X8_tells_173 at h
  refine n_aload_n (i := 0) dX8_tells_173 rfl rfl ?_
  refine p_getr fl_X8_42 (sh_1 _ _) rfl (rR_1_4 _ _) dX8_tells_174 ?_
  refine n_iload dX8_tells_177 rfl ?_
  refine n_iload_n (i := 1) dX8_tells_179 rfl rfl ?_
  refine n_aload_n (i := 0) dX8_tells_180 rfl rfl ?_
  refine p_getr fl_X8_46 (sh_1 _ _) rfl (rR_1_8 _ _) dX8_tells_181 ?_
  obtain ⟨q14, hq14, h⟩ := yb_bind h
  refine p_callVi (As := [.int x6, .int x1, .ref (yb_ad G 91)]) (t_X5_valueOf_91 hq14) cv_X8_194 (sh_54 _ _) rfl rfl (Nat.le_of_ble_eq_true rfl) dX8_tells_184 (yb_rok (Nat.le_of_ble_eq_true rfl) (by decide)) ⟨rfl, rfl⟩ ⟨Nat.le_refl _, Nat.le_refl _⟩ (fun k15 => ?_)
  cases h
  exact n_iret dX8_tells_187 rfl rfl (Nat.le_refl _) (Nat.le_refl _) ⟨rfl, rfl⟩
set_option maxHeartbeats 4000000 in
set_option maxRecDepth 20000 in
theorem t_l_X8_tells_28 {G : yb_G} {X : List (FieldType × Nat)} {x1 : Int32} {x2 : Int32} {x3 : Int32} {x4 : Int32} {x5 : Int32} {x6 : Int32} {out : (Int32 × yb_S)} : ∀ (k0 : Nat) (x7 : Int32) (s : yb_S), l_X8_tells_28 x1 x2 x3 x4 x5 x6 k0 x7 s = some out → Rn G RX8 cX8_tells 8 (Option.some .int) false (yb_rm 4) (yb_qi X out.2 out.1) 0 0 28 [some (.ref (yb_ad G 1)), some (.int x1), some (.int x2), some (.int x3), some (.int x4), some (.int x5), some (.int x6), some (.int x7)] [] (yb_mk s X) := by
  intro k0
  induction k0 with
  | zero => intro x7 s h; cases h
  | succ k0 ih =>
    intro x7 s h
    have h : f_X8_tells_28 (fun x7 s => l_X8_tells_28 x1 x2 x3 x4 x5 x6 k0 x7 s) x1 x2 x3 x4 x5 x6 x7 s = some out := h
    have hrc28 := ih
    unfold f_X8_tells_28 at h
    refine n_iload dX8_tells_28 rfl ?_
    refine n_bipush (18 : Int32) dX8_tells_30 bp_18 ?_
    refine n_icmp_ge 49 dX8_tells_32 (by decide) (fun c4 => ?_) (fun c4 => ?_)
    · have h := yb_ifp c4 h
      refine n_aload_n (i := 0) dX8_tells_49 rfl rfl ?_
      refine p_getr fl_X8_46 (sh_1 _ _) rfl (rR_1_8 _ _) dX8_tells_50 ?_
      refine n_bipush (14 : Int32) dX8_tells_53 bp_14 ?_
      refine n_aload_n (i := 0) dX8_tells_55 rfl rfl ?_
      refine p_geti fl_X8_183 (sh_1 _ _) rfl dX8_tells_56 ?_
      obtain ⟨s5, hs5, h⟩ := yb_bind h
      refine p_iast hs5 (sh_91 _ _) dX8_tells_59 ?_
      refine n_aload_n (i := 0) dX8_tells_60 rfl rfl ?_
      refine p_getr fl_X8_46 (sh_1 _ _) rfl (rR_1_8 _ _) dX8_tells_61 ?_
      refine n_bipush (16 : Int32) dX8_tells_64 bp_16 ?_
      refine n_aload_n (i := 0) dX8_tells_66 rfl rfl ?_
      refine p_geti fl_X8_91 (sh_1 _ _) rfl dX8_tells_67 ?_
      obtain ⟨s6, hs6, h⟩ := yb_bind h
      refine p_iast hs6 (sh_91 _ _) dX8_tells_70 ?_
      refine n_aload_n (i := 0) dX8_tells_71 rfl rfl ?_
      refine p_getr fl_X8_46 (sh_1 _ _) rfl (rR_1_8 _ _) dX8_tells_72 ?_
      refine n_bipush (17 : Int32) dX8_tells_75 bp_17 ?_
      refine n_iload dX8_tells_77 rfl ?_
      obtain ⟨s7, hs7, h⟩ := yb_bind h
      refine p_iast hs7 (sh_91 _ _) dX8_tells_79 ?_
      refine n_aload_n (i := 0) dX8_tells_80 rfl rfl ?_
      refine p_getr fl_X8_28 (sh_1 _ _) rfl (rR_1_2 _ _) dX8_tells_81 ?_
      refine n_iload_n (i := 2) dX8_tells_84 rfl rfl ?_
      obtain ⟨q8, hq8, h⟩ := yb_bind h
      refine p_callVi (As := [.int x2]) (t_X2_has hq8) cv_X8_50 (sh_21 _ _) rfl rfl (Nat.le_of_ble_eq_true rfl) dX8_tells_85 (yb_rok (Nat.le_of_ble_eq_true rfl) (by decide)) ⟨rfl, rfl⟩ ⟨Nat.le_refl _, Nat.le_refl _⟩ (fun k9 => ?_)
      refine n_if_eq 116 dX8_tells_88 (by decide) (fun c10 => ?_) (fun c10 => ?_)
      · have h := yb_ifp c10 h
        refine n_aload_n (i := 0) dX8_tells_116 rfl rfl ?_
        refine p_getr fl_X8_12 (sh_1 _ _) rfl (rR_1_0 _ _) dX8_tells_117 ?_
        refine n_iload dX8_tells_120 rfl ?_
        obtain ⟨q11, hq11, h⟩ := yb_bind h
        refine p_callVi (As := [.int x4]) (t_X10_has hq11) cv_X8_176 (sh_2 _ _) rfl rfl (Nat.le_of_ble_eq_true rfl) dX8_tells_122 (yb_rok (Nat.le_of_ble_eq_true rfl) (by decide)) ⟨rfl, rfl⟩ ⟨Nat.le_refl _, Nat.le_refl _⟩ (fun k12 => ?_)
        refine n_if_eq 173 dX8_tells_125 (by decide) (fun c13 => ?_) (fun c13 => ?_)
        · have h := yb_ifp c13 h
          exact p_jump (tj_X8_tells_173 h) (And.intro rfl (And.intro rfl (And.intro rfl trivial)))
        · have h := yb_ifn c13 h
          refine n_aload_n (i := 0) dX8_tells_128 rfl rfl ?_
          refine p_getr fl_X8_46 (sh_1 _ _) rfl (rR_1_8 _ _) dX8_tells_129 ?_
          refine n_bipush (12 : Int32) dX8_tells_132 bp_12 ?_
          refine n_aload_n (i := 0) dX8_tells_134 rfl rfl ?_
          refine p_getr fl_X8_12 (sh_1 _ _) rfl (rR_1_0 _ _) dX8_tells_135 ?_
          refine p_getr fl_X8_113 (sh_2 _ _) rfl (rR_2_3 _ _) dX8_tells_138 ?_
          refine n_iload dX8_tells_141 rfl ?_
          obtain ⟨v16, hv16, h⟩ := yb_bind h
          refine p_iald hv16 (sh_5 _ _) dX8_tells_143 ?_
          refine n_aload_n (i := 0) dX8_tells_144 rfl rfl ?_
          refine p_getr fl_X8_12 (sh_1 _ _) rfl (rR_1_0 _ _) dX8_tells_145 ?_
          refine p_getr fl_X8_80 (sh_2 _ _) rfl (rR_2_8 _ _) dX8_tells_148 ?_
          refine n_iload dX8_tells_151 rfl ?_
          obtain ⟨v17, hv17, h⟩ := yb_bind h
          refine p_iald hv17 (sh_10 _ _) dX8_tells_153 ?_
          refine n_isub dX8_tells_154 ?_
          obtain ⟨s18, hs18, h⟩ := yb_bind h
          refine p_iast hs18 (sh_91 _ _) dX8_tells_155 ?_
          refine n_aload_n (i := 0) dX8_tells_156 rfl rfl ?_
          refine p_getr fl_X8_46 (sh_1 _ _) rfl (rR_1_8 _ _) dX8_tells_157 ?_
          refine n_bipush (15 : Int32) dX8_tells_160 bp_15 ?_
          refine n_aload_n (i := 0) dX8_tells_162 rfl rfl ?_
          refine p_getr fl_X8_12 (sh_1 _ _) rfl (rR_1_0 _ _) dX8_tells_163 ?_
          refine p_getr fl_X8_193 (sh_2 _ _) rfl (rR_2_6 _ _) dX8_tells_166 ?_
          refine n_iload dX8_tells_169 rfl ?_
          obtain ⟨v19, hv19, h⟩ := yb_bind h
          refine p_iald hv19 (sh_8 _ _) dX8_tells_171 ?_
          obtain ⟨s20, hs20, h⟩ := yb_bind h
          refine p_iast hs20 (sh_91 _ _) dX8_tells_172 ?_
          exact p_jump (tj_X8_tells_173 h) (And.intro rfl (And.intro rfl (And.intro rfl trivial)))
      · have h := yb_ifn c10 h
        refine n_aload_n (i := 0) dX8_tells_91 rfl rfl ?_
        refine n_iload_n (i := 2) dX8_tells_92 rfl rfl ?_
        obtain ⟨q21, hq21, h⟩ := yb_bind h
        refine p_callVv (As := [.int x2]) (t_X8_nameFamily hq21) cv_X8_186 (sh_1 _ _) rfl rfl (Nat.le_of_ble_eq_true rfl) dX8_tells_93 (yb_rok (Nat.le_of_ble_eq_true rfl) (by decide)) ⟨rfl, rfl⟩ ⟨Nat.le_refl _, Nat.le_refl _⟩ (fun k22 => ?_)
        refine n_aload_n (i := 0) dX8_tells_96 rfl rfl ?_
        refine p_getr fl_X8_21 (sh_1 _ _) rfl (rR_1_1 _ _) dX8_tells_97 ?_
        refine n_iload_n (i := 3) dX8_tells_100 rfl rfl ?_
        obtain ⟨q23, hq23, h⟩ := yb_bind h
        refine p_callVi (As := [.int x3]) (t_X4_has hq23) cv_X8_68 (sh_13 _ _) rfl rfl (Nat.le_of_ble_eq_true rfl) dX8_tells_101 (yb_rok (Nat.le_of_ble_eq_true rfl) (by decide)) ⟨rfl, rfl⟩ ⟨Nat.le_refl _, Nat.le_refl _⟩ (fun k24 => ?_)
        refine n_if_eq 173 dX8_tells_104 (by decide) (fun c25 => ?_) (fun c25 => ?_)
        · have h := yb_ifp c25 h
          exact p_jump (tj_X8_tells_173 h) (And.intro rfl (And.intro rfl (And.intro rfl trivial)))
        · have h := yb_ifn c25 h
          refine n_aload_n (i := 0) dX8_tells_107 rfl rfl ?_
          refine n_iload_n (i := 2) dX8_tells_108 rfl rfl ?_
          refine n_iload_n (i := 3) dX8_tells_109 rfl rfl ?_
          obtain ⟨q26, hq26, h⟩ := yb_bind h
          refine p_callVv (As := [.int x2, .int x3]) (t_X8_nameHome hq26) cv_X8_189 (sh_1 _ _) rfl rfl (Nat.le_of_ble_eq_true rfl) dX8_tells_110 (yb_rok (Nat.le_of_ble_eq_true rfl) (by decide)) ⟨rfl, rfl⟩ ⟨Nat.le_refl _, Nat.le_refl _⟩ (fun k27 => ?_)
          refine n_goto 173 dX8_tells_113 (by decide) ?_
          exact p_jump (tj_X8_tells_173 h) (And.intro rfl (And.intro rfl (And.intro rfl trivial)))
    · have h := yb_ifn c4 h
      refine n_aload_n (i := 0) dX8_tells_35 rfl rfl ?_
      refine p_getr fl_X8_46 (sh_1 _ _) rfl (rR_1_8 _ _) dX8_tells_36 ?_
      refine n_iload dX8_tells_39 rfl ?_
      refine n_iconst (0 : Int32) dX8_tells_41 ic_0 ?_
      obtain ⟨s28, hs28, h⟩ := yb_bind h
      refine p_iast hs28 (sh_91 _ _) dX8_tells_42 ?_
      refine n_iinc (vs' := [some (.ref (yb_ad G 1)), some (.int x1), some (.int x2), some (.int x3), some (.int x4), some (.int x5), some (.int x6), some (.int (x7 + (1 : Int32)))]) dX8_tells_43 rfl (ii_1 _) (Nat.le_of_ble_eq_true rfl) rfl rfl ?_
      refine n_goto 28 dX8_tells_46 (by decide) ?_
      exact p_jump (hrc28 (x7 + (1 : Int32)) s28 h) (And.intro rfl (And.intro rfl (And.intro rfl (And.intro rfl (And.intro rfl (And.intro rfl (And.intro rfl (And.intro rfl trivial))))))))
set_option maxHeartbeats 4000000 in
set_option maxRecDepth 20000 in
theorem tl_X8_tells_28 {G : yb_G} {X : List (FieldType × Nat)} {x1 : Int32} {x2 : Int32} {x3 : Int32} {x4 : Int32} {x5 : Int32} {x6 : Int32} {out : (Int32 × yb_S)} {x7 : Int32} {s : yb_S} (h : l_X8_tells_28 x1 x2 x3 x4 x5 x6 yb_N x7 s = some out) : Rn G RX8 cX8_tells 8 (Option.some .int) false (yb_rm 4) (yb_qi X out.2 out.1) 0 0 28 [some (.ref (yb_ad G 1)), some (.int x1), some (.int x2), some (.int x3), some (.int x4), some (.int x5), some (.int x6), some (.int x7)] [] (yb_mk s X) := t_l_X8_tells_28 _ _ _ h
set_option maxHeartbeats 4000000 in
set_option maxRecDepth 20000 in
theorem t_X8_tells {G : yb_G} {X : List (FieldType × Nat)} {a1 : Int32} {a2 : Int32} {a3 : Int32} {a4 : Int32} {a5 : Int32} {s : yb_S} {out : (Int32 × yb_S)} (h : f_X8_tells a1 a2 a3 a4 a5 s = some out) : Ct G yX8_tells cX8_tells 8 (Option.some .int) (yb_rm 4) [.ref (yb_ad G 1), .int a1, .int a2, .int a3, .int a4, .int a5] (yb_mk s X) (yb_qi X out.2 out.1) := by
  refine Ct.of (own := RX8) (ini := false) (vs := [some (.ref (yb_ad G 1)), some (.int a1), some (.int a2), some (.int a3), some (.int a4), some (.int a5), none, none]) ⟨rfl, by decide +kernel⟩ (fun h => by cases h) (Nat.le_of_ble_eq_true rfl) rfl ?_
  unfold f_X8_tells at h
  refine n_aload_n (i := 0) dX8_tells_0 rfl rfl ?_
  refine p_getr fl_X8_42 (sh_1 _ _) rfl (rR_1_4 _ _) dX8_tells_1 ?_
  refine n_iload_n (i := 1) dX8_tells_4 rfl rfl ?_
  refine n_aload_n (i := 0) dX8_tells_5 rfl rfl ?_
  refine p_geti fl_X8_91 (sh_1 _ _) rfl dX8_tells_6 ?_
  obtain ⟨q1, hq1, h⟩ := yb_bind h
  refine p_callVi (As := [.int a1, .int (s.1 1 5)]) (t_X5_inForce hq1) cv_X8_177 (sh_54 _ _) rfl rfl (Nat.le_of_ble_eq_true rfl) dX8_tells_9 (yb_rok (Nat.le_of_ble_eq_true rfl) (by decide)) ⟨rfl, rfl⟩ ⟨Nat.le_refl _, Nat.le_refl _⟩ (fun k2 => ?_)
  refine n_istore (i := 6) (vs' := [some (.ref (yb_ad G 1)), some (.int a1), some (.int a2), some (.int a3), some (.int a4), some (.int a5), some (.int q1), none]) dX8_tells_12 (Nat.le_of_ble_eq_true rfl) rfl rfl ?_
  refine n_iload dX8_tells_14 rfl ?_
  refine n_iconst (-1 : Int32) dX8_tells_16 ic_m1 ?_
  refine n_icmp_ne 25 dX8_tells_17 (by decide) (fun c3 => ?_) (fun c3 => ?_)
  · have h := yb_ifn c3 h
    refine n_iconst (0 : Int32) dX8_tells_25 ic_0 ?_
    refine n_istore (i := 7) (vs' := [some (.ref (yb_ad G 1)), some (.int a1), some (.int a2), some (.int a3), some (.int a4), some (.int a5), some (.int q1), some (.int (0 : Int32))]) dX8_tells_26 (Nat.le_of_ble_eq_true rfl) rfl rfl ?_
    exact p_jump (tl_X8_tells_28 h) (And.intro rfl (And.intro rfl (And.intro rfl (And.intro rfl (And.intro rfl (And.intro rfl (And.intro rfl (And.intro rfl trivial))))))))
  · have h := yb_ifp c3 h
    refine n_iload_n (i := 1) dX8_tells_20 rfl rfl ?_
    obtain ⟨q29, hq29, h⟩ := yb_bind h
    refine p_callSi (As := [.int a1]) (t_X5_unwritten hq29) cs_X8_180 rfl rfl (Nat.le_of_ble_eq_true rfl) dX8_tells_21 (yb_rok (Nat.le_of_ble_eq_true rfl) (by decide)) ⟨rfl, rfl⟩ ⟨Nat.le_refl _, Nat.le_refl _⟩ (fun k30 => ?_)
    cases h
    exact n_iret dX8_tells_24 rfl rfl (Nat.le_refl _) (Nat.le_refl _) ⟨rfl, rfl⟩
set_option maxHeartbeats 4000000 in
set_option maxRecDepth 20000 in
theorem t_X10_teaches {G : yb_G} {X : List (FieldType × Nat)} {a1 : Int32} {a2 : Int32} {s : yb_S} {out : Int32} (h : f_X10_teaches a1 a2 s = some out) : Ct G yX10_teaches cX10_teaches 3 (Option.some .boolean) (yb_rm 1) [.ref (yb_ad G 2), .int a1, .int a2] (yb_mk s X) (yb_qi X s out) := by
  refine Ct.of (own := RX10) (ini := false) (vs := [some (.ref (yb_ad G 2)), some (.int a1), some (.int a2)]) ⟨rfl, by decide +kernel⟩ (fun h => by cases h) (Nat.le_of_ble_eq_true rfl) rfl ?_
  unfold f_X10_teaches at h
  refine n_iload_n (i := 1) dX10_teaches_0 rfl rfl ?_
  refine n_if_lt 30 dX10_teaches_1 (by decide) (fun c1 => ?_) (fun c1 => ?_)
  · have h := yb_ifp c1 h
    refine n_iconst (0 : Int32) dX10_teaches_30 ic_0 ?_
    cases h
    exact n_iret dX10_teaches_31 rfl (by decide) (Nat.le_refl _) (Nat.le_refl _) ⟨rfl, rfl⟩
  · have h := yb_ifn c1 h
    refine n_iload_n (i := 1) dX10_teaches_4 rfl rfl ?_
    refine n_aload_n (i := 0) dX10_teaches_5 rfl rfl ?_
    refine p_geti fl_X10_44 (sh_2 _ _) rfl dX10_teaches_6 ?_
    refine n_icmp_ge 30 dX10_teaches_9 (by decide) (fun c2 => ?_) (fun c2 => ?_)
    · have h := yb_ifp c2 h
      refine n_iconst (0 : Int32) dX10_teaches_30 ic_0 ?_
      cases h
      exact n_iret dX10_teaches_31 rfl (by decide) (Nat.le_refl _) (Nat.le_refl _) ⟨rfl, rfl⟩
    · have h := yb_ifn c2 h
      refine n_aload_n (i := 0) dX10_teaches_12 rfl rfl ?_
      refine p_getr fl_X10_15 (sh_2 _ _) rfl (rR_2_2 _ _) dX10_teaches_13 ?_
      refine n_iload_n (i := 1) dX10_teaches_16 rfl rfl ?_
      obtain ⟨v3, hv3, h⟩ := yb_bind h
      refine p_iald hv3 (sh_4 _ _) dX10_teaches_17 ?_
      refine n_iload_n (i := 2) dX10_teaches_18 rfl rfl ?_
      refine n_ishr dX10_teaches_19 ?_
      refine n_iconst (1 : Int32) dX10_teaches_20 ic_1 ?_
      refine n_iand dX10_teaches_21 ?_
      refine n_iconst (1 : Int32) dX10_teaches_22 ic_1 ?_
      refine n_icmp_ne 30 dX10_teaches_23 (by decide) (fun c4 => ?_) (fun c4 => ?_)
      · have h := yb_ifn c4 h
        refine n_iconst (0 : Int32) dX10_teaches_30 ic_0 ?_
        cases h
        exact n_iret dX10_teaches_31 rfl (by decide) (Nat.le_refl _) (Nat.le_refl _) ⟨rfl, rfl⟩
      · have h := yb_ifp c4 h
        refine n_iconst (1 : Int32) dX10_teaches_26 ic_1 ?_
        refine n_goto 31 dX10_teaches_27 (by decide) ?_
        cases h
        exact n_iret dX10_teaches_31 rfl (by decide) (Nat.le_refl _) (Nat.le_refl _) ⟨rfl, rfl⟩
set_option maxHeartbeats 4000000 in
set_option maxRecDepth 20000 in
theorem t_X8_hasSchoolFor {G : yb_G} {X : List (FieldType × Nat)} {a1 : Int32} {a2 : Int32} {s : yb_S} {out : Int32} (h : f_X8_hasSchoolFor a1 a2 s = some out) : Ct G yX8_hasSchoolFor cX8_hasSchoolFor 3 (Option.some .boolean) (yb_rm 2) [.ref (yb_ad G 1), .int a1, .int a2] (yb_mk s X) (yb_qi X s out) := by
  refine Ct.of (own := RX8) (ini := false) (vs := [some (.ref (yb_ad G 1)), some (.int a1), some (.int a2)]) ⟨rfl, by decide +kernel⟩ (fun h => by cases h) (Nat.le_of_ble_eq_true rfl) rfl ?_
  unfold f_X8_hasSchoolFor at h
  refine n_aload_n (i := 0) dX8_hasSchoolFor_0 rfl rfl ?_
  refine p_getr fl_X8_12 (sh_1 _ _) rfl (rR_1_0 _ _) dX8_hasSchoolFor_1 ?_
  refine n_iload_n (i := 2) dX8_hasSchoolFor_4 rfl rfl ?_
  refine n_aload_n (i := 0) dX8_hasSchoolFor_5 rfl rfl ?_
  refine p_getr fl_X8_28 (sh_1 _ _) rfl (rR_1_2 _ _) dX8_hasSchoolFor_6 ?_
  refine p_getr fl_X8_134 (sh_21 _ _) rfl (rR_21_4 _ _) dX8_hasSchoolFor_9 ?_
  refine n_iload_n (i := 1) dX8_hasSchoolFor_12 rfl rfl ?_
  obtain ⟨v1, hv1, h⟩ := yb_bind h
  refine p_iald hv1 (sh_25 _ _) dX8_hasSchoolFor_13 ?_
  obtain ⟨q2, hq2, h⟩ := yb_bind h
  refine p_callVi (As := [.int a2, .int v1]) (t_X10_teaches hq2) cv_X8_148 (sh_2 _ _) rfl rfl (Nat.le_of_ble_eq_true rfl) dX8_hasSchoolFor_14 (yb_rok (Nat.le_of_ble_eq_true rfl) (by decide)) ⟨rfl, rfl⟩ ⟨Nat.le_refl _, Nat.le_refl _⟩ (fun k3 => ?_)
  refine n_if_eq 42 dX8_hasSchoolFor_17 (by decide) (fun c4 => ?_) (fun c4 => ?_)
  · have h := yb_ifp c4 h
    refine n_iconst (0 : Int32) dX8_hasSchoolFor_42 ic_0 ?_
    cases h
    exact n_iret dX8_hasSchoolFor_43 rfl (by decide) (Nat.le_refl _) (Nat.le_refl _) ⟨rfl, rfl⟩
  · have h := yb_ifn c4 h
    refine n_aload_n (i := 0) dX8_hasSchoolFor_20 rfl rfl ?_
    refine n_iload_n (i := 1) dX8_hasSchoolFor_21 rfl rfl ?_
    refine n_iload_n (i := 2) dX8_hasSchoolFor_22 rfl rfl ?_
    obtain ⟨q5, hq5, h⟩ := yb_bind h
    refine p_callVi (As := [.int a1, .int a2]) (t_X8_seatsFor hq5) cv_X8_151 (sh_1 _ _) rfl rfl (Nat.le_of_ble_eq_true rfl) dX8_hasSchoolFor_23 (yb_rok (Nat.le_of_ble_eq_true rfl) (by decide)) ⟨rfl, rfl⟩ ⟨Nat.le_refl _, Nat.le_refl _⟩ (fun k6 => ?_)
    refine n_aload_n (i := 0) dX8_hasSchoolFor_26 rfl rfl ?_
    refine p_getr fl_X8_28 (sh_1 _ _) rfl (rR_1_2 _ _) dX8_hasSchoolFor_27 ?_
    refine p_getr fl_X8_83 (sh_21 _ _) rfl (rR_21_2 _ _) dX8_hasSchoolFor_30 ?_
    refine n_iload_n (i := 1) dX8_hasSchoolFor_33 rfl rfl ?_
    obtain ⟨v7, hv7, h⟩ := yb_bind h
    refine p_iald hv7 (sh_23 _ _) dX8_hasSchoolFor_34 ?_
    refine n_icmp_lt 42 dX8_hasSchoolFor_35 (by decide) (fun c8 => ?_) (fun c8 => ?_)
    · have h := yb_ifp c8 h
      refine n_iconst (0 : Int32) dX8_hasSchoolFor_42 ic_0 ?_
      cases h
      exact n_iret dX8_hasSchoolFor_43 rfl (by decide) (Nat.le_refl _) (Nat.le_refl _) ⟨rfl, rfl⟩
    · have h := yb_ifn c8 h
      refine n_iconst (1 : Int32) dX8_hasSchoolFor_38 ic_1 ?_
      refine n_goto 43 dX8_hasSchoolFor_39 (by decide) ?_
      cases h
      exact n_iret dX8_hasSchoolFor_43 rfl (by decide) (Nat.le_refl _) (Nat.le_refl _) ⟨rfl, rfl⟩
set_option maxHeartbeats 4000000 in
set_option maxRecDepth 20000 in
theorem tj_X8_barOf_207 {G : yb_G} {X : List (FieldType × Nat)} {x1 : Int32} {x2 : Int32} {x3 : Int32} {s : yb_S} {out : (Int32 × yb_S)} (h : j_X8_barOf_207 x1 x2 x3 s = some out) : Rn G RX8 cX8_barOf 4 (Option.some .int) false (yb_rm 5) (yb_qi X out.2 out.1) 0 0 207 [some (.ref (yb_ad G 1)), some (.int x1), some (.int x2), some (.int x3)] [] (yb_mk s X) := by
  unfold j_X8_barOf_207 at h
  refine n_aload_n (i := 0) dX8_barOf_207 rfl rfl ?_
  refine p_getr fl_X8_12 (sh_1 _ _) rfl (rR_1_0 _ _) dX8_barOf_208 ?_
  refine p_getr fl_X8_137 (sh_2 _ _) rfl (rR_2_5 _ _) dX8_barOf_211 ?_
  refine n_iload_n (i := 3) dX8_barOf_214 rfl rfl ?_
  obtain ⟨v23, hv23, h⟩ := yb_bind h
  refine p_zald hv23 (sh_7 _ _) dX8_barOf_215 ?_
  refine n_if_eq 222 dX8_barOf_216 (by decide) (fun c24 => ?_) (fun c24 => ?_)
  · have h := yb_ifp c24 h
    refine n_aload_n (i := 0) dX8_barOf_222 rfl rfl ?_
    refine n_iload_n (i := 1) dX8_barOf_223 rfl rfl ?_
    refine n_iload_n (i := 3) dX8_barOf_224 rfl rfl ?_
    obtain ⟨q25, hq25, h⟩ := yb_bind h
    refine p_callVi (As := [.int x1, .int x3]) (t_X8_isTooNear hq25) cv_X8_141 (sh_1 _ _) rfl rfl (Nat.le_of_ble_eq_true rfl) dX8_barOf_225 (yb_rok (Nat.le_of_ble_eq_true rfl) (by decide)) ⟨rfl, rfl⟩ ⟨Nat.le_refl _, Nat.le_refl _⟩ (fun k26 => ?_)
    refine n_if_eq 234 dX8_barOf_228 (by decide) (fun c27 => ?_) (fun c27 => ?_)
    · have h := yb_ifp c27 h
      refine n_aload_n (i := 0) dX8_barOf_234 rfl rfl ?_
      refine n_iconst (4 : Int32) dX8_barOf_235 ic_4 ?_
      refine n_iload_n (i := 1) dX8_barOf_236 rfl rfl ?_
      refine n_iload_n (i := 2) dX8_barOf_237 rfl rfl ?_
      refine n_iconst (-1 : Int32) dX8_barOf_238 ic_m1 ?_
      refine n_iconst (0 : Int32) dX8_barOf_239 ic_0 ?_
      obtain ⟨q28, hq28, h⟩ := yb_bind h
      refine p_callVi (As := [.int (4 : Int32), .int x1, .int x2, .int (-1 : Int32), .int (0 : Int32)]) (t_X8_tells hq28) cv_X8_144 (sh_1 _ _) rfl rfl (Nat.le_of_ble_eq_true rfl) dX8_barOf_240 (yb_rok (Nat.le_of_ble_eq_true rfl) (by decide)) ⟨rfl, rfl⟩ ⟨Nat.le_refl _, Nat.le_refl _⟩ (fun k29 => ?_)
      refine n_iconst (1 : Int32) dX8_barOf_243 ic_1 ?_
      refine n_icmp_ne 251 dX8_barOf_244 (by decide) (fun c30 => ?_) (fun c30 => ?_)
      · have h := yb_ifn c30 h
        refine n_bipush (9 : Int32) dX8_barOf_251 bp_9 ?_
        cases h
        exact n_iret dX8_barOf_253 rfl rfl (Nat.le_refl _) (Nat.le_refl _) ⟨rfl, rfl⟩
      · have h := yb_ifp c30 h
        refine n_iconst (0 : Int32) dX8_barOf_247 ic_0 ?_
        refine n_goto 253 dX8_barOf_248 (by decide) ?_
        cases h
        exact n_iret dX8_barOf_253 rfl rfl (Nat.le_refl _) (Nat.le_refl _) ⟨rfl, rfl⟩
    · have h := yb_ifn c27 h
      refine n_bipush (8 : Int32) dX8_barOf_231 bp_8 ?_
      cases h
      exact n_iret dX8_barOf_233 rfl rfl (Nat.le_refl _) (Nat.le_refl _) ⟨rfl, rfl⟩
  · have h := yb_ifn c24 h
    refine n_bipush (7 : Int32) dX8_barOf_219 bp_7 ?_
    cases h
    exact n_iret dX8_barOf_221 rfl rfl (Nat.le_refl _) (Nat.le_refl _) ⟨rfl, rfl⟩
set_option maxHeartbeats 4000000 in
set_option maxRecDepth 20000 in
theorem tj_X8_barOf_170 {G : yb_G} {X : List (FieldType × Nat)} {x1 : Int32} {x2 : Int32} {x3 : Int32} {s : yb_S} {out : (Int32 × yb_S)} (h : j_X8_barOf_170 x1 x2 x3 s = some out) : Rn G RX8 cX8_barOf 4 (Option.some .int) false (yb_rm 5) (yb_qi X out.2 out.1) 0 0 170 [some (.ref (yb_ad G 1)), some (.int x1), some (.int x2), some (.int x3)] [] (yb_mk s X) := by
  unfold j_X8_barOf_170 at h
  refine n_aload_n (i := 0) dX8_barOf_170 rfl rfl ?_
  refine p_getr fl_X8_21 (sh_1 _ _) rfl (rR_1_1 _ _) dX8_barOf_171 ?_
  refine p_getr fl_X8_131 (sh_13 _ _) rfl (rR_13_4 _ _) dX8_barOf_174 ?_
  refine n_iload_n (i := 2) dX8_barOf_177 rfl rfl ?_
  obtain ⟨v21, hv21, h⟩ := yb_bind h
  refine p_iald hv21 (sh_17 _ _) dX8_barOf_178 ?_
  refine n_iconst (4 : Int32) dX8_barOf_179 ic_4 ?_
  refine n_icmp_eq 207 dX8_barOf_180 (by decide) (fun c22 => ?_) (fun c22 => ?_)
  · have h := yb_ifp c22 h
    exact p_jump (tj_X8_barOf_207 h) (And.intro rfl (And.intro rfl (And.intro rfl (And.intro rfl trivial))))
  · have h := yb_ifn c22 h
    refine n_aload_n (i := 0) dX8_barOf_183 rfl rfl ?_
    refine p_getr fl_X8_21 (sh_1 _ _) rfl (rR_1_1 _ _) dX8_barOf_184 ?_
    refine p_getr fl_X8_131 (sh_13 _ _) rfl (rR_13_4 _ _) dX8_barOf_187 ?_
    refine n_iload_n (i := 2) dX8_barOf_190 rfl rfl ?_
    obtain ⟨v31, hv31, h⟩ := yb_bind h
    refine p_iald hv31 (sh_17 _ _) dX8_barOf_191 ?_
    refine n_aload_n (i := 0) dX8_barOf_192 rfl rfl ?_
    refine p_getr fl_X8_28 (sh_1 _ _) rfl (rR_1_2 _ _) dX8_barOf_193 ?_
    refine p_getr fl_X8_134 (sh_21 _ _) rfl (rR_21_4 _ _) dX8_barOf_196 ?_
    refine n_iload_n (i := 1) dX8_barOf_199 rfl rfl ?_
    obtain ⟨v32, hv32, h⟩ := yb_bind h
    refine p_iald hv32 (sh_25 _ _) dX8_barOf_200 ?_
    refine n_icmp_eq 207 dX8_barOf_201 (by decide) (fun c33 => ?_) (fun c33 => ?_)
    · have h := yb_ifp c33 h
      exact p_jump (tj_X8_barOf_207 h) (And.intro rfl (And.intro rfl (And.intro rfl (And.intro rfl trivial))))
    · have h := yb_ifn c33 h
      refine n_bipush (6 : Int32) dX8_barOf_204 bp_6 ?_
      cases h
      exact n_iret dX8_barOf_206 rfl rfl (Nat.le_refl _) (Nat.le_refl _) ⟨rfl, rfl⟩
set_option maxHeartbeats 4000000 in
set_option maxRecDepth 20000 in
theorem tj_X8_barOf_147 {G : yb_G} {X : List (FieldType × Nat)} {x1 : Int32} {x2 : Int32} {x3 : Int32} {s : yb_S} {out : (Int32 × yb_S)} (h : j_X8_barOf_147 x1 x2 x3 s = some out) : Rn G RX8 cX8_barOf 4 (Option.some .int) false (yb_rm 5) (yb_qi X out.2 out.1) 0 0 147 [some (.ref (yb_ad G 1)), some (.int x1), some (.int x2), some (.int x3)] [] (yb_mk s X) := by
  unfold j_X8_barOf_147 at h
  refine n_aload_n (i := 0) dX8_barOf_147 rfl rfl ?_
  refine p_getr fl_X8_28 (sh_1 _ _) rfl (rR_1_2 _ _) dX8_barOf_148 ?_
  refine p_getr fl_X8_83 (sh_21 _ _) rfl (rR_21_2 _ _) dX8_barOf_151 ?_
  refine n_iload_n (i := 1) dX8_barOf_154 rfl rfl ?_
  obtain ⟨v19, hv19, h⟩ := yb_bind h
  refine p_iald hv19 (sh_23 _ _) dX8_barOf_155 ?_
  refine n_if_le 170 dX8_barOf_156 (by decide) (fun c20 => ?_) (fun c20 => ?_)
  · have h := yb_ifp c20 h
    exact p_jump (tj_X8_barOf_170 h) (And.intro rfl (And.intro rfl (And.intro rfl (And.intro rfl trivial))))
  · have h := yb_ifn c20 h
    refine n_aload_n (i := 0) dX8_barOf_159 rfl rfl ?_
    refine n_iload_n (i := 1) dX8_barOf_160 rfl rfl ?_
    refine n_iload_n (i := 3) dX8_barOf_161 rfl rfl ?_
    obtain ⟨q34, hq34, h⟩ := yb_bind h
    refine p_callVi (As := [.int x1, .int x3]) (t_X8_hasSchoolFor hq34) cv_X8_128 (sh_1 _ _) rfl rfl (Nat.le_of_ble_eq_true rfl) dX8_barOf_162 (yb_rok (Nat.le_of_ble_eq_true rfl) (by decide)) ⟨rfl, rfl⟩ ⟨Nat.le_refl _, Nat.le_refl _⟩ (fun k35 => ?_)
    refine n_if_ne 170 dX8_barOf_165 (by decide) (fun c36 => ?_) (fun c36 => ?_)
    · have h := yb_ifn c36 h
      exact p_jump (tj_X8_barOf_170 h) (And.intro rfl (And.intro rfl (And.intro rfl (And.intro rfl trivial))))
    · have h := yb_ifp c36 h
      refine n_iconst (5 : Int32) dX8_barOf_168 ic_5 ?_
      cases h
      exact n_iret dX8_barOf_169 rfl rfl (Nat.le_refl _) (Nat.le_refl _) ⟨rfl, rfl⟩
set_option maxHeartbeats 4000000 in
set_option maxRecDepth 20000 in
theorem tj_X8_barOf_96 {G : yb_G} {X : List (FieldType × Nat)} {x1 : Int32} {x2 : Int32} {x3 : Int32} {s : yb_S} {out : (Int32 × yb_S)} (h : j_X8_barOf_96 x1 x2 x3 s = some out) : Rn G RX8 cX8_barOf 4 (Option.some .int) false (yb_rm 5) (yb_qi X out.2 out.1) 0 0 96 [some (.ref (yb_ad G 1)), some (.int x1), some (.int x2), some (.int x3)] [] (yb_mk s X) := by
  unfold j_X8_barOf_96 at h
  refine n_aload_n (i := 0) dX8_barOf_96 rfl rfl ?_
  refine p_getr fl_X8_28 (sh_1 _ _) rfl (rR_1_2 _ _) dX8_barOf_97 ?_
  refine p_getr fl_X8_61 (sh_21 _ _) rfl (rR_21_1 _ _) dX8_barOf_100 ?_
  refine n_iload_n (i := 1) dX8_barOf_103 rfl rfl ?_
  obtain ⟨v14, hv14, h⟩ := yb_bind h
  refine p_iald hv14 (sh_22 _ _) dX8_barOf_104 ?_
  refine n_aload_n (i := 0) dX8_barOf_105 rfl rfl ?_
  refine p_getr fl_X8_21 (sh_1 _ _) rfl (rR_1_1 _ _) dX8_barOf_106 ?_
  refine p_getr fl_X8_119 (sh_13 _ _) rfl (rR_13_2 _ _) dX8_barOf_109 ?_
  refine n_iload_n (i := 2) dX8_barOf_112 rfl rfl ?_
  obtain ⟨v15, hv15, h⟩ := yb_bind h
  refine p_iald hv15 (sh_15 _ _) dX8_barOf_113 ?_
  refine n_icmp_le 119 dX8_barOf_114 (by decide) (fun c16 => ?_) (fun c16 => ?_)
  · have h := yb_ifp c16 h
    refine n_aload_n (i := 0) dX8_barOf_119 rfl rfl ?_
    refine p_getr fl_X8_21 (sh_1 _ _) rfl (rR_1_1 _ _) dX8_barOf_120 ?_
    refine p_getr fl_X8_122 (sh_13 _ _) rfl (rR_13_3 _ _) dX8_barOf_123 ?_
    refine n_iload_n (i := 2) dX8_barOf_126 rfl rfl ?_
    obtain ⟨v17, hv17, h⟩ := yb_bind h
    refine p_iald hv17 (sh_16 _ _) dX8_barOf_127 ?_
    refine n_iconst (1 : Int32) dX8_barOf_128 ic_1 ?_
    refine n_icmp_ne 147 dX8_barOf_129 (by decide) (fun c18 => ?_) (fun c18 => ?_)
    · have h := yb_ifn c18 h
      exact p_jump (tj_X8_barOf_147 h) (And.intro rfl (And.intro rfl (And.intro rfl (And.intro rfl trivial))))
    · have h := yb_ifp c18 h
      refine n_aload_n (i := 0) dX8_barOf_132 rfl rfl ?_
      refine p_getr fl_X8_28 (sh_1 _ _) rfl (rR_1_2 _ _) dX8_barOf_133 ?_
      refine p_getr fl_X8_125 (sh_21 _ _) rfl (rR_21_3 _ _) dX8_barOf_136 ?_
      refine n_iload_n (i := 1) dX8_barOf_139 rfl rfl ?_
      obtain ⟨v37, hv37, h⟩ := yb_bind h
      refine p_iald hv37 (sh_24 _ _) dX8_barOf_140 ?_
      refine n_iconst (1 : Int32) dX8_barOf_141 ic_1 ?_
      refine n_icmp_ne 147 dX8_barOf_142 (by decide) (fun c38 => ?_) (fun c38 => ?_)
      · have h := yb_ifn c38 h
        exact p_jump (tj_X8_barOf_147 h) (And.intro rfl (And.intro rfl (And.intro rfl (And.intro rfl trivial))))
      · have h := yb_ifp c38 h
        refine n_iconst (4 : Int32) dX8_barOf_145 ic_4 ?_
        cases h
        exact n_iret dX8_barOf_146 rfl rfl (Nat.le_refl _) (Nat.le_refl _) ⟨rfl, rfl⟩
  · have h := yb_ifn c16 h
    refine n_iconst (3 : Int32) dX8_barOf_117 ic_3 ?_
    cases h
    exact n_iret dX8_barOf_118 rfl rfl (Nat.le_refl _) (Nat.le_refl _) ⟨rfl, rfl⟩
set_option maxHeartbeats 4000000 in
set_option maxRecDepth 20000 in
theorem t_X8_barOf {G : yb_G} {X : List (FieldType × Nat)} {a1 : Int32} {a2 : Int32} {s : yb_S} {out : (Int32 × yb_S)} (h : f_X8_barOf a1 a2 s = some out) : Ct G yX8_barOf cX8_barOf 4 (Option.some .int) (yb_rm 5) [.ref (yb_ad G 1), .int a1, .int a2] (yb_mk s X) (yb_qi X out.2 out.1) := by
  refine Ct.of (own := RX8) (ini := false) (vs := [some (.ref (yb_ad G 1)), some (.int a1), some (.int a2), none]) ⟨rfl, by decide +kernel⟩ (fun h => by cases h) (Nat.le_of_ble_eq_true rfl) rfl ?_
  unfold f_X8_barOf at h
  refine n_aload_n (i := 0) dX8_barOf_0 rfl rfl ?_
  refine p_getr fl_X8_28 (sh_1 _ _) rfl (rR_1_2 _ _) dX8_barOf_1 ?_
  refine n_iload_n (i := 1) dX8_barOf_4 rfl rfl ?_
  obtain ⟨q1, hq1, h⟩ := yb_bind h
  refine p_callVi (As := [.int a1]) (t_X2_has hq1) cv_X8_50 (sh_21 _ _) rfl rfl (Nat.le_of_ble_eq_true rfl) dX8_barOf_5 (yb_rok (Nat.le_of_ble_eq_true rfl) (by decide)) ⟨rfl, rfl⟩ ⟨Nat.le_refl _, Nat.le_refl _⟩ (fun k2 => ?_)
  refine n_if_eq 22 dX8_barOf_8 (by decide) (fun c3 => ?_) (fun c3 => ?_)
  · have h := yb_ifp c3 h
    refine n_iconst (-1 : Int32) dX8_barOf_22 ic_m1 ?_
    cases h
    exact n_iret dX8_barOf_23 rfl rfl (Nat.le_refl _) (Nat.le_refl _) ⟨rfl, rfl⟩
  · have h := yb_ifn c3 h
    refine n_aload_n (i := 0) dX8_barOf_11 rfl rfl ?_
    refine p_getr fl_X8_21 (sh_1 _ _) rfl (rR_1_1 _ _) dX8_barOf_12 ?_
    refine n_iload_n (i := 2) dX8_barOf_15 rfl rfl ?_
    obtain ⟨q4, hq4, h⟩ := yb_bind h
    refine p_callVi (As := [.int a2]) (t_X4_has hq4) cv_X8_68 (sh_13 _ _) rfl rfl (Nat.le_of_ble_eq_true rfl) dX8_barOf_16 (yb_rok (Nat.le_of_ble_eq_true rfl) (by decide)) ⟨rfl, rfl⟩ ⟨Nat.le_refl _, Nat.le_refl _⟩ (fun k5 => ?_)
    refine n_if_ne 24 dX8_barOf_19 (by decide) (fun c6 => ?_) (fun c6 => ?_)
    · have h := yb_ifn c6 h
      refine n_aload_n (i := 0) dX8_barOf_24 rfl rfl ?_
      refine p_getr fl_X8_21 (sh_1 _ _) rfl (rR_1_1 _ _) dX8_barOf_25 ?_
      refine p_getr fl_X8_69 (sh_13 _ _) rfl (rR_13_1 _ _) dX8_barOf_28 ?_
      refine n_iload_n (i := 2) dX8_barOf_31 rfl rfl ?_
      obtain ⟨v7, hv7, h⟩ := yb_bind h
      refine p_iald hv7 (sh_14 _ _) dX8_barOf_32 ?_
      refine n_istore_n (i := 3) (vs' := [some (.ref (yb_ad G 1)), some (.int a1), some (.int a2), some (.int v7)]) dX8_barOf_33 rfl (Nat.le_of_ble_eq_true rfl) rfl rfl ?_
      refine n_aload_n (i := 0) dX8_barOf_34 rfl rfl ?_
      refine p_geti fl_X8_91 (sh_1 _ _) rfl dX8_barOf_35 ?_
      refine n_aload_n (i := 0) dX8_barOf_38 rfl rfl ?_
      refine p_getr fl_X8_21 (sh_1 _ _) rfl (rR_1_1 _ _) dX8_barOf_39 ?_
      refine p_getr fl_X8_116 (sh_13 _ _) rfl (rR_13_5 _ _) dX8_barOf_42 ?_
      refine n_iload_n (i := 2) dX8_barOf_45 rfl rfl ?_
      obtain ⟨v8, hv8, h⟩ := yb_bind h
      refine p_iald hv8 (sh_18 _ _) dX8_barOf_46 ?_
      refine n_icmp_lt 66 dX8_barOf_47 (by decide) (fun c9 => ?_) (fun c9 => ?_)
      · have h := yb_ifp c9 h
        refine n_iconst (1 : Int32) dX8_barOf_66 ic_1 ?_
        cases h
        exact n_iret dX8_barOf_67 rfl rfl (Nat.le_refl _) (Nat.le_refl _) ⟨rfl, rfl⟩
      · have h := yb_ifn c9 h
        refine n_aload_n (i := 0) dX8_barOf_50 rfl rfl ?_
        refine p_geti fl_X8_91 (sh_1 _ _) rfl dX8_barOf_51 ?_
        refine n_aload_n (i := 0) dX8_barOf_54 rfl rfl ?_
        refine p_getr fl_X8_21 (sh_1 _ _) rfl (rR_1_1 _ _) dX8_barOf_55 ?_
        refine p_getr fl_X8_88 (sh_13 _ _) rfl (rR_13_6 _ _) dX8_barOf_58 ?_
        refine n_iload_n (i := 2) dX8_barOf_61 rfl rfl ?_
        obtain ⟨v10, hv10, h⟩ := yb_bind h
        refine p_iald hv10 (sh_19 _ _) dX8_barOf_62 ?_
        refine n_icmp_le 68 dX8_barOf_63 (by decide) (fun c11 => ?_) (fun c11 => ?_)
        · have h := yb_ifp c11 h
          refine n_aload_n (i := 0) dX8_barOf_68 rfl rfl ?_
          refine p_getr fl_X8_21 (sh_1 _ _) rfl (rR_1_1 _ _) dX8_barOf_69 ?_
          refine p_getr fl_X8_76 (sh_13 _ _) rfl (rR_13_7 _ _) dX8_barOf_72 ?_
          refine n_iload_n (i := 2) dX8_barOf_75 rfl rfl ?_
          obtain ⟨v12, hv12, h⟩ := yb_bind h
          refine p_iald hv12 (sh_20 _ _) dX8_barOf_76 ?_
          refine n_iconst (-1 : Int32) dX8_barOf_77 ic_m1 ?_
          refine n_icmp_eq 96 dX8_barOf_78 (by decide) (fun c13 => ?_) (fun c13 => ?_)
          · have h := yb_ifp c13 h
            exact p_jump (tj_X8_barOf_96 h) (And.intro rfl (And.intro rfl (And.intro rfl (And.intro rfl trivial))))
          · have h := yb_ifn c13 h
            refine n_aload_n (i := 0) dX8_barOf_81 rfl rfl ?_
            refine p_getr fl_X8_21 (sh_1 _ _) rfl (rR_1_1 _ _) dX8_barOf_82 ?_
            refine p_getr fl_X8_76 (sh_13 _ _) rfl (rR_13_7 _ _) dX8_barOf_85 ?_
            refine n_iload_n (i := 2) dX8_barOf_88 rfl rfl ?_
            obtain ⟨v39, hv39, h⟩ := yb_bind h
            refine p_iald hv39 (sh_20 _ _) dX8_barOf_89 ?_
            refine n_iload_n (i := 1) dX8_barOf_90 rfl rfl ?_
            refine n_icmp_eq 96 dX8_barOf_91 (by decide) (fun c40 => ?_) (fun c40 => ?_)
            · have h := yb_ifp c40 h
              exact p_jump (tj_X8_barOf_96 h) (And.intro rfl (And.intro rfl (And.intro rfl (And.intro rfl trivial))))
            · have h := yb_ifn c40 h
              refine n_iconst (2 : Int32) dX8_barOf_94 ic_2 ?_
              cases h
              exact n_iret dX8_barOf_95 rfl rfl (Nat.le_refl _) (Nat.le_refl _) ⟨rfl, rfl⟩
        · have h := yb_ifn c11 h
          refine n_iconst (1 : Int32) dX8_barOf_66 ic_1 ?_
          cases h
          exact n_iret dX8_barOf_67 rfl rfl (Nat.le_refl _) (Nat.le_refl _) ⟨rfl, rfl⟩
    · have h := yb_ifp c6 h
      refine n_iconst (-1 : Int32) dX8_barOf_22 ic_m1 ?_
      cases h
      exact n_iret dX8_barOf_23 rfl rfl (Nat.le_refl _) (Nat.le_refl _) ⟨rfl, rfl⟩
set_option maxHeartbeats 4000000 in
set_option maxRecDepth 20000 in
theorem t_X11_bar {G : yb_G} {X : List (FieldType × Nat)} {a1 : Int32} {a2 : Int32} {s : yb_S} {out : (Int32 × yb_S)} (h : f_X11_bar a1 a2 s = some out) : Ct G yX11_bar cX11_bar 3 (Option.some .int) (yb_rm 6) [.ref (yb_ad G 0), .int a1, .int a2] (yb_mk s X) (yb_qi X out.2 out.1) := by
  refine Ct.of (own := RX11) (ini := false) (vs := [some (.ref (yb_ad G 0)), some (.int a1), some (.int a2)]) ⟨rfl, by decide +kernel⟩ (fun h => by cases h) (Nat.le_of_ble_eq_true rfl) rfl ?_
  unfold f_X11_bar at h
  refine n_aload_n (i := 0) dX11_bar_0 rfl rfl ?_
  refine p_getr fl_X11_10 (sh_0 _ _) rfl (rR_0_0 _ _) dX11_bar_1 ?_
  refine n_iload_n (i := 1) dX11_bar_4 rfl rfl ?_
  obtain ⟨q1, hq1, h⟩ := yb_bind h
  refine p_callVi (As := [.int a1]) (t_X8_isHere hq1) cv_X11_113 (sh_1 _ _) rfl rfl (Nat.le_of_ble_eq_true rfl) dX11_bar_5 (yb_rok (Nat.le_of_ble_eq_true rfl) (by decide)) ⟨rfl, rfl⟩ ⟨Nat.le_refl _, Nat.le_refl _⟩ (fun k2 => ?_)
  refine n_if_eq 25 dX11_bar_8 (by decide) (fun c3 => ?_) (fun c3 => ?_)
  · have h := yb_ifp c3 h
    refine n_iconst (-1 : Int32) dX11_bar_25 ic_m1 ?_
    cases h
    exact n_iret dX11_bar_26 rfl rfl (Nat.le_refl _) (Nat.le_refl _) ⟨rfl, rfl⟩
  · have h := yb_ifn c3 h
    refine n_aload_n (i := 0) dX11_bar_11 rfl rfl ?_
    refine p_getr fl_X11_10 (sh_0 _ _) rfl (rR_0_0 _ _) dX11_bar_12 ?_
    refine p_getr fl_X11_77 (sh_1 _ _) rfl (rR_1_1 _ _) dX11_bar_15 ?_
    refine n_iload_n (i := 2) dX11_bar_18 rfl rfl ?_
    obtain ⟨q4, hq4, h⟩ := yb_bind h
    refine p_callVi (As := [.int a2]) (t_X4_has hq4) cv_X11_223 (sh_13 _ _) rfl rfl (Nat.le_of_ble_eq_true rfl) dX11_bar_19 (yb_rok (Nat.le_of_ble_eq_true rfl) (by decide)) ⟨rfl, rfl⟩ ⟨Nat.le_refl _, Nat.le_refl _⟩ (fun k5 => ?_)
    refine n_if_ne 27 dX11_bar_22 (by decide) (fun c6 => ?_) (fun c6 => ?_)
    · have h := yb_ifn c6 h
      refine n_aload_n (i := 0) dX11_bar_27 rfl rfl ?_
      refine p_getr fl_X11_10 (sh_0 _ _) rfl (rR_0_0 _ _) dX11_bar_28 ?_
      refine n_iload_n (i := 1) dX11_bar_31 rfl rfl ?_
      refine n_iload_n (i := 2) dX11_bar_32 rfl rfl ?_
      obtain ⟨q7, hq7, h⟩ := yb_bind h
      refine p_callVi (As := [.int a1, .int a2]) (t_X8_barOf hq7) cv_X11_224 (sh_1 _ _) rfl rfl (Nat.le_of_ble_eq_true rfl) dX11_bar_33 (yb_rok (Nat.le_of_ble_eq_true rfl) (by decide)) ⟨rfl, rfl⟩ ⟨Nat.le_refl _, Nat.le_refl _⟩ (fun k8 => ?_)
      cases h
      exact n_iret dX11_bar_36 rfl rfl (Nat.le_refl _) (Nat.le_refl _) ⟨rfl, rfl⟩
    · have h := yb_ifp c6 h
      refine n_iconst (-1 : Int32) dX11_bar_25 ic_m1 ?_
      cases h
      exact n_iret dX11_bar_26 rfl rfl (Nat.le_refl _) (Nat.le_refl _) ⟨rfl, rfl⟩
set_option maxHeartbeats 4000000 in
set_option maxRecDepth 20000 in
theorem t_X11_beds {G : yb_G} {X : List (FieldType × Nat)} {a1 : Int32} {s : yb_S} {out : (Int32 × yb_S)} (h : f_X11_beds a1 s = some out) : Ct G yX11_beds cX11_beds 2 (Option.some .boolean) (yb_rm 1) [.ref (yb_ad G 0), .int a1] (yb_mk s X) (yb_qi X out.2 out.1) := by
  refine Ct.of (own := RX11) (ini := false) (vs := [some (.ref (yb_ad G 0)), some (.int a1)]) ⟨rfl, by decide +kernel⟩ (fun h => by cases h) (Nat.le_of_ble_eq_true rfl) rfl ?_
  unfold f_X11_beds at h
  refine n_iload_n (i := 1) dX11_beds_0 rfl rfl ?_
  refine n_if_lt 11 dX11_beds_1 (by decide) (fun c1 => ?_) (fun c1 => ?_)
  · have h := yb_ifp c1 h
    refine n_iconst (0 : Int32) dX11_beds_11 ic_0 ?_
    cases h
    exact n_iret dX11_beds_12 rfl (by decide) (Nat.le_refl _) (Nat.le_refl _) ⟨rfl, rfl⟩
  · have h := yb_ifn c1 h
    refine n_iload_n (i := 1) dX11_beds_4 rfl rfl ?_
    refine n_sipush (200 : Int32) dX11_beds_5 sp_200 ?_
    refine n_icmp_le 13 dX11_beds_8 (by decide) (fun c2 => ?_) (fun c2 => ?_)
    · have h := yb_ifp c2 h
      refine n_aload_n (i := 0) dX11_beds_13 rfl rfl ?_
      refine p_getr fl_X11_10 (sh_0 _ _) rfl (rR_0_0 _ _) dX11_beds_14 ?_
      refine n_iload_n (i := 1) dX11_beds_17 rfl rfl ?_
      obtain ⟨s3, hs3, h⟩ := yb_bind h
      refine p_puti hs3 fp_X11_90 (sh_1 _ _) rfl rfl rfl dX11_beds_18 ?_
      refine n_iconst (1 : Int32) dX11_beds_21 ic_1 ?_
      cases h
      exact n_iret dX11_beds_22 rfl (by decide) (Nat.le_refl _) (Nat.le_refl _) ⟨rfl, rfl⟩
    · have h := yb_ifn c2 h
      refine n_iconst (0 : Int32) dX11_beds_11 ic_0 ?_
      cases h
      exact n_iret dX11_beds_12 rfl (by decide) (Nat.le_refl _) (Nat.le_refl _) ⟨rfl, rfl⟩
set_option maxHeartbeats 4000000 in
set_option maxRecDepth 20000 in
theorem t_X8_aheadOf {G : yb_G} {X : List (FieldType × Nat)} {a1 : Int32} {s : yb_S} {out : (Int32 × yb_S)} (h : f_X8_aheadOf a1 s = some out) : Ct G yX8_aheadOf cX8_aheadOf 2 (Option.some .int) (yb_rm 5) [.ref (yb_ad G 1), .int a1] (yb_mk s X) (yb_qi X out.2 out.1) := by
  refine Ct.of (own := RX8) (ini := false) (vs := [some (.ref (yb_ad G 1)), some (.int a1)]) ⟨rfl, by decide +kernel⟩ (fun h => by cases h) (Nat.le_of_ble_eq_true rfl) rfl ?_
  unfold f_X8_aheadOf at h
  refine n_aload_n (i := 0) dX8_aheadOf_0 rfl rfl ?_
  refine n_iconst (0 : Int32) dX8_aheadOf_1 ic_0 ?_
  refine n_iload_n (i := 1) dX8_aheadOf_2 rfl rfl ?_
  refine n_iconst (-1 : Int32) dX8_aheadOf_3 ic_m1 ?_
  refine n_iconst (-1 : Int32) dX8_aheadOf_4 ic_m1 ?_
  refine n_iconst (0 : Int32) dX8_aheadOf_5 ic_0 ?_
  obtain ⟨q1, hq1, h⟩ := yb_bind h
  refine p_callVi (As := [.int (0 : Int32), .int a1, .int (-1 : Int32), .int (-1 : Int32), .int (0 : Int32)]) (t_X8_tells hq1) cv_X8_144 (sh_1 _ _) rfl rfl (Nat.le_of_ble_eq_true rfl) dX8_aheadOf_6 (yb_rok (Nat.le_of_ble_eq_true rfl) (by decide)) ⟨rfl, rfl⟩ ⟨Nat.le_refl _, Nat.le_refl _⟩ (fun k2 => ?_)
  cases h
  exact n_iret dX8_aheadOf_9 rfl rfl (Nat.le_refl _) (Nat.le_refl _) ⟨rfl, rfl⟩
set_option maxHeartbeats 4000000 in
set_option maxRecDepth 20000 in
theorem tj_X6_putInLine_60 {G : yb_G} {X : List (FieldType × Nat)} {x1 : Int32} {x2 : Int32} {s : yb_S} {out : yb_S} (h : j_X6_putInLine_60 x1 x2 s = some out) : Rn G RX6 cX6_putInLine 4 none false (yb_rm 1) (yb_qv X out) 0 0 60 [some (.ref (yb_ad G 100)), some (.int x1), some (.int x2), none] [] (yb_mk s X) := by
  unfold j_X6_putInLine_60 at h
  refine n_aload_n (i := 0) dX6_putInLine_60 rfl rfl ?_
  refine p_getr fl_X6_9 (sh_100 _ _) rfl (rR_100_1 _ _) dX6_putInLine_61 ?_
  refine n_iload_n (i := 2) dX6_putInLine_64 rfl rfl ?_
  refine n_iload_n (i := 1) dX6_putInLine_65 rfl rfl ?_
  obtain ⟨s2, hs2, h⟩ := yb_bind h
  refine p_iast hs2 (sh_101 _ _) dX6_putInLine_66 ?_
  refine n_aload_n (i := 0) dX6_putInLine_67 rfl rfl ?_
  refine n_dup dX6_putInLine_68 rfl ?_
  refine p_geti fl_X6_42 (sh_100 _ _) rfl dX6_putInLine_69 ?_
  refine n_iconst (1 : Int32) dX6_putInLine_72 ic_1 ?_
  refine n_iadd dX6_putInLine_73 ?_
  obtain ⟨s3, hs3, h⟩ := yb_bind h
  refine p_puti hs3 fp_X6_42 (sh_100 _ _) rfl rfl rfl dX6_putInLine_74 ?_
  cases h
  exact n_vret dX6_putInLine_77 rfl (Nat.le_refl _) (Nat.le_refl _) ⟨rfl, rfl⟩
set_option maxHeartbeats 4000000 in
set_option maxRecDepth 20000 in
theorem t_l_X6_putInLine_10 {G : yb_G} {X : List (FieldType × Nat)} {x1 : Int32} {out : yb_S} : ∀ (k0 : Nat) (x2 : Int32) (x3 : Int32) (s : yb_S), l_X6_putInLine_10 x1 k0 x2 x3 s = some out → Rn G RX6 cX6_putInLine 4 none false (yb_rm 1) (yb_qv X out) 0 0 10 [some (.ref (yb_ad G 100)), some (.int x1), some (.int x2), some (.int x3)] [] (yb_mk s X) := by
  intro k0
  induction k0 with
  | zero => intro x2 x3 s h; cases h
  | succ k0 ih =>
    intro x2 x3 s h
    have h : f_X6_putInLine_10 (fun x2 x3 s => l_X6_putInLine_10 x1 k0 x2 x3 s) x1 x2 x3 s = some out := h
    have hrc10 := ih
    unfold f_X6_putInLine_10 at h
    refine n_iload_n (i := 3) dX6_putInLine_10 rfl rfl ?_
    refine n_if_le 60 dX6_putInLine_11 (by decide) (fun c1 => ?_) (fun c1 => ?_)
    · have h := yb_ifp c1 h
      exact p_jump (tj_X6_putInLine_60 h) (And.intro rfl (And.intro rfl (And.intro rfl trivial)))
    · have h := yb_ifn c1 h
      refine n_aload_n (i := 0) dX6_putInLine_14 rfl rfl ?_
      refine p_getr fl_X6_15 (sh_100 _ _) rfl (rR_100_2 _ _) dX6_putInLine_15 ?_
      refine n_aload_n (i := 0) dX6_putInLine_18 rfl rfl ?_
      refine p_getr fl_X6_9 (sh_100 _ _) rfl (rR_100_1 _ _) dX6_putInLine_19 ?_
      refine n_iload_n (i := 3) dX6_putInLine_22 rfl rfl ?_
      refine n_iconst (1 : Int32) dX6_putInLine_23 ic_1 ?_
      refine n_isub dX6_putInLine_24 ?_
      obtain ⟨v4, hv4, h⟩ := yb_bind h
      refine p_iald hv4 (sh_101 _ _) dX6_putInLine_25 ?_
      obtain ⟨v5, hv5, h⟩ := yb_bind h
      refine p_iald hv5 (sh_102 _ _) dX6_putInLine_26 ?_
      refine n_aload_n (i := 0) dX6_putInLine_27 rfl rfl ?_
      refine p_getr fl_X6_15 (sh_100 _ _) rfl (rR_100_2 _ _) dX6_putInLine_28 ?_
      refine n_iload_n (i := 1) dX6_putInLine_31 rfl rfl ?_
      obtain ⟨v6, hv6, h⟩ := yb_bind h
      refine p_iald hv6 (sh_102 _ _) dX6_putInLine_32 ?_
      refine n_icmp_ge 60 dX6_putInLine_33 (by decide) (fun c7 => ?_) (fun c7 => ?_)
      · have h := yb_ifp c7 h
        exact p_jump (tj_X6_putInLine_60 h) (And.intro rfl (And.intro rfl (And.intro rfl trivial)))
      · have h := yb_ifn c7 h
        refine n_aload_n (i := 0) dX6_putInLine_36 rfl rfl ?_
        refine p_getr fl_X6_9 (sh_100 _ _) rfl (rR_100_1 _ _) dX6_putInLine_37 ?_
        refine n_iload_n (i := 3) dX6_putInLine_40 rfl rfl ?_
        refine n_aload_n (i := 0) dX6_putInLine_41 rfl rfl ?_
        refine p_getr fl_X6_9 (sh_100 _ _) rfl (rR_100_1 _ _) dX6_putInLine_42 ?_
        refine n_iload_n (i := 3) dX6_putInLine_45 rfl rfl ?_
        refine n_iconst (1 : Int32) dX6_putInLine_46 ic_1 ?_
        refine n_isub dX6_putInLine_47 ?_
        obtain ⟨v8, hv8, h⟩ := yb_bind h
        refine p_iald hv8 (sh_101 _ _) dX6_putInLine_48 ?_
        obtain ⟨s9, hs9, h⟩ := yb_bind h
        refine p_iast hs9 (sh_101 _ _) dX6_putInLine_49 ?_
        refine n_iload_n (i := 3) dX6_putInLine_50 rfl rfl ?_
        refine n_iconst (1 : Int32) dX6_putInLine_51 ic_1 ?_
        refine n_isub dX6_putInLine_52 ?_
        refine n_istore_n (i := 2) (vs' := [some (.ref (yb_ad G 100)), some (.int x1), some (.int (x3 - (1 : Int32))), some (.int x3)]) dX6_putInLine_53 rfl (Nat.le_of_ble_eq_true rfl) rfl rfl ?_
        refine n_iinc (vs' := [some (.ref (yb_ad G 100)), some (.int x1), some (.int (x3 - (1 : Int32))), some (.int (x3 + (-1 : Int32)))]) dX6_putInLine_54 rfl (ii_m1 _) (Nat.le_of_ble_eq_true rfl) rfl rfl ?_
        refine n_goto 10 dX6_putInLine_57 (by decide) ?_
        exact p_jump (hrc10 (x3 - (1 : Int32)) (x3 + (-1 : Int32)) s9 h) (And.intro rfl (And.intro rfl (And.intro rfl (And.intro rfl trivial))))
set_option maxHeartbeats 4000000 in
set_option maxRecDepth 20000 in
theorem tl_X6_putInLine_10 {G : yb_G} {X : List (FieldType × Nat)} {x1 : Int32} {out : yb_S} {x2 : Int32} {x3 : Int32} {s : yb_S} (h : l_X6_putInLine_10 x1 yb_N x2 x3 s = some out) : Rn G RX6 cX6_putInLine 4 none false (yb_rm 1) (yb_qv X out) 0 0 10 [some (.ref (yb_ad G 100)), some (.int x1), some (.int x2), some (.int x3)] [] (yb_mk s X) := t_l_X6_putInLine_10 _ _ _ _ h
set_option maxHeartbeats 4000000 in
set_option maxRecDepth 20000 in
theorem t_X6_putInLine {G : yb_G} {X : List (FieldType × Nat)} {a1 : Int32} {s : yb_S} {out : yb_S} (h : f_X6_putInLine a1 s = some out) : Ct G yX6_putInLine cX6_putInLine 4 none (yb_rm 1) [.ref (yb_ad G 100), .int a1] (yb_mk s X) (yb_qv X out) := by
  refine Ct.of (own := RX6) (ini := false) (vs := [some (.ref (yb_ad G 100)), some (.int a1), none, none]) ⟨rfl, by decide +kernel⟩ (fun h => by cases h) (Nat.le_of_ble_eq_true rfl) rfl ?_
  unfold f_X6_putInLine at h
  refine n_aload_n (i := 0) dX6_putInLine_0 rfl rfl ?_
  refine p_geti fl_X6_42 (sh_100 _ _) rfl dX6_putInLine_1 ?_
  refine n_istore_n (i := 2) (vs' := [some (.ref (yb_ad G 100)), some (.int a1), some (.int (s.1 100 4)), none]) dX6_putInLine_4 rfl (Nat.le_of_ble_eq_true rfl) rfl rfl ?_
  refine n_aload_n (i := 0) dX6_putInLine_5 rfl rfl ?_
  refine p_geti fl_X6_42 (sh_100 _ _) rfl dX6_putInLine_6 ?_
  refine n_istore_n (i := 3) (vs' := [some (.ref (yb_ad G 100)), some (.int a1), some (.int (s.1 100 4)), some (.int (s.1 100 4))]) dX6_putInLine_9 rfl (Nat.le_of_ble_eq_true rfl) rfl rfl ?_
  exact p_jump (tl_X6_putInLine_10 h) (And.intro rfl (And.intro rfl (And.intro rfl (And.intro rfl trivial))))
set_option maxHeartbeats 4000000 in
set_option maxRecDepth 20000 in
theorem tj_X6_lineUp_55 {G : yb_G} {X : List (FieldType × Nat)} {rc7 : (Int32 → yb_S → Option yb_S)} {x1 : Int32} {s : yb_S} {out : yb_S} (hrc7 : ∀ (x1' : Int32) (s' : yb_S), rc7 x1' s' = some out → Rn G RX6 cX6_lineUp 2 none false (yb_rm 6) (yb_qv X out) 0 0 7 [some (.ref (yb_ad G 100)), some (.int x1')] [] (yb_mk s' X)) (h : j_X6_lineUp_55 rc7 x1 s = some out) : Rn G RX6 cX6_lineUp 2 none false (yb_rm 6) (yb_qv X out) 0 0 55 [some (.ref (yb_ad G 100)), some (.int x1)] [] (yb_mk s X) := by
  unfold j_X6_lineUp_55 at h
  refine n_iinc (vs' := [some (.ref (yb_ad G 100)), some (.int (x1 + (1 : Int32)))]) dX6_lineUp_55 rfl (ii_1 _) (Nat.le_of_ble_eq_true rfl) rfl rfl ?_
  refine n_goto 7 dX6_lineUp_58 (by decide) ?_
  exact p_jump (hrc7 (x1 + (1 : Int32)) s h) (And.intro rfl (And.intro rfl trivial))
set_option maxHeartbeats 4000000 in
set_option maxRecDepth 20000 in
theorem t_l_X6_lineUp_7 {G : yb_G} {X : List (FieldType × Nat)} {out : yb_S} : ∀ (k0 : Nat) (x1 : Int32) (s : yb_S), l_X6_lineUp_7 k0 x1 s = some out → Rn G RX6 cX6_lineUp 2 none false (yb_rm 6) (yb_qv X out) 0 0 7 [some (.ref (yb_ad G 100)), some (.int x1)] [] (yb_mk s X) := by
  intro k0
  induction k0 with
  | zero => intro x1 s h; cases h
  | succ k0 ih =>
    intro x1 s h
    have h : f_X6_lineUp_7 (fun x1 s => l_X6_lineUp_7 k0 x1 s) x1 s = some out := h
    have hrc7 := ih
    unfold f_X6_lineUp_7 at h
    refine n_iload_n (i := 1) dX6_lineUp_7 rfl rfl ?_
    refine n_aload_n (i := 0) dX6_lineUp_8 rfl rfl ?_
    refine p_getr fl_X6_23 (sh_100 _ _) rfl (rR_100_0 _ _) dX6_lineUp_9 ?_
    refine p_getr fl_X6_27 (sh_1 _ _) rfl (rR_1_2 _ _) dX6_lineUp_12 ?_
    refine p_geti fl_X6_33 (sh_21 _ _) rfl dX6_lineUp_15 ?_
    refine n_icmp_ge 61 dX6_lineUp_18 (by decide) (fun c2 => ?_) (fun c2 => ?_)
    · have h := yb_ifp c2 h
      cases h
      exact n_vret dX6_lineUp_61 rfl (Nat.le_refl _) (Nat.le_refl _) ⟨rfl, rfl⟩
    · have h := yb_ifn c2 h
      refine n_aload_n (i := 0) dX6_lineUp_21 rfl rfl ?_
      refine p_getr fl_X6_23 (sh_100 _ _) rfl (rR_100_0 _ _) dX6_lineUp_22 ?_
      refine p_getr fl_X6_27 (sh_1 _ _) rfl (rR_1_2 _ _) dX6_lineUp_25 ?_
      refine p_getr fl_X6_45 (sh_21 _ _) rfl (rR_21_7 _ _) dX6_lineUp_28 ?_
      refine n_iload_n (i := 1) dX6_lineUp_31 rfl rfl ?_
      obtain ⟨v3, hv3, h⟩ := yb_bind h
      refine p_iald hv3 (sh_28 _ _) dX6_lineUp_32 ?_
      refine n_if_ne 55 dX6_lineUp_33 (by decide) (fun c4 => ?_) (fun c4 => ?_)
      · have h := yb_ifn c4 h
        exact p_jump (tj_X6_lineUp_55 hrc7 h) (And.intro rfl (And.intro rfl trivial))
      · have h := yb_ifp c4 h
        refine n_aload_n (i := 0) dX6_lineUp_36 rfl rfl ?_
        refine p_getr fl_X6_15 (sh_100 _ _) rfl (rR_100_2 _ _) dX6_lineUp_37 ?_
        refine n_iload_n (i := 1) dX6_lineUp_40 rfl rfl ?_
        refine n_aload_n (i := 0) dX6_lineUp_41 rfl rfl ?_
        refine p_getr fl_X6_23 (sh_100 _ _) rfl (rR_100_0 _ _) dX6_lineUp_42 ?_
        refine n_iload_n (i := 1) dX6_lineUp_45 rfl rfl ?_
        obtain ⟨q5, hq5, h⟩ := yb_bind h
        refine p_callVi (As := [.int x1]) (t_X8_aheadOf hq5) cv_X6_48 (sh_1 _ _) rfl rfl (Nat.le_of_ble_eq_true rfl) dX6_lineUp_46 (yb_rok (Nat.le_of_ble_eq_true rfl) (by decide)) ⟨rfl, rfl⟩ ⟨Nat.le_refl _, Nat.le_refl _⟩ (fun k6 => ?_)
        obtain ⟨s7, hs7, h⟩ := yb_bind h
        refine p_iast hs7 (sh_102 _ _) dX6_lineUp_49 ?_
        refine n_aload_n (i := 0) dX6_lineUp_50 rfl rfl ?_
        refine n_iload_n (i := 1) dX6_lineUp_51 rfl rfl ?_
        obtain ⟨q8, hq8, h⟩ := yb_bind h
        refine p_callVv (As := [.int x1]) (t_X6_putInLine hq8) cv_X6_52 (sh_100 _ _) rfl rfl (Nat.le_of_ble_eq_true rfl) dX6_lineUp_52 (yb_rok (Nat.le_of_ble_eq_true rfl) (by decide)) ⟨rfl, rfl⟩ ⟨Nat.le_refl _, Nat.le_refl _⟩ (fun k9 => ?_)
        exact p_jump (tj_X6_lineUp_55 hrc7 h) (And.intro rfl (And.intro rfl trivial))
set_option maxHeartbeats 4000000 in
set_option maxRecDepth 20000 in
theorem tl_X6_lineUp_7 {G : yb_G} {X : List (FieldType × Nat)} {out : yb_S} {x1 : Int32} {s : yb_S} (h : l_X6_lineUp_7 yb_N x1 s = some out) : Rn G RX6 cX6_lineUp 2 none false (yb_rm 6) (yb_qv X out) 0 0 7 [some (.ref (yb_ad G 100)), some (.int x1)] [] (yb_mk s X) := t_l_X6_lineUp_7 _ _ _ h
set_option maxHeartbeats 4000000 in
set_option maxRecDepth 20000 in
theorem t_X6_lineUp {G : yb_G} {X : List (FieldType × Nat)} {s : yb_S} {out : yb_S} (h : f_X6_lineUp s = some out) : Ct G yX6_lineUp cX6_lineUp 2 none (yb_rm 6) [.ref (yb_ad G 100)] (yb_mk s X) (yb_qv X out) := by
  refine Ct.of (own := RX6) (ini := false) (vs := [some (.ref (yb_ad G 100)), none]) ⟨rfl, by decide +kernel⟩ (fun h => by cases h) (Nat.le_of_ble_eq_true rfl) rfl ?_
  unfold f_X6_lineUp at h
  refine n_aload_n (i := 0) dX6_lineUp_0 rfl rfl ?_
  refine n_iconst (0 : Int32) dX6_lineUp_1 ic_0 ?_
  obtain ⟨s1, hs1, h⟩ := yb_bind h
  refine p_puti hs1 fp_X6_42 (sh_100 _ _) rfl rfl rfl dX6_lineUp_2 ?_
  refine n_iconst (0 : Int32) dX6_lineUp_5 ic_0 ?_
  refine n_istore_n (i := 1) (vs' := [some (.ref (yb_ad G 100)), some (.int (0 : Int32))]) dX6_lineUp_6 rfl (Nat.le_of_ble_eq_true rfl) rfl rfl ?_
  exact p_jump (tl_X6_lineUp_7 h) (And.intro rfl (And.intro rfl trivial))
set_option maxHeartbeats 4000000 in
set_option maxRecDepth 20000 in
theorem t_X8_lackOf {G : yb_G} {X : List (FieldType × Nat)} {a1 : Int32} {s : yb_S} {out : (Int32 × yb_S)} (h : f_X8_lackOf a1 s = some out) : Ct G yX8_lackOf cX8_lackOf 2 (Option.some .int) (yb_rm 5) [.ref (yb_ad G 1), .int a1] (yb_mk s X) (yb_qi X out.2 out.1) := by
  refine Ct.of (own := RX8) (ini := false) (vs := [some (.ref (yb_ad G 1)), some (.int a1)]) ⟨rfl, by decide +kernel⟩ (fun h => by cases h) (Nat.le_of_ble_eq_true rfl) rfl ?_
  unfold f_X8_lackOf at h
  refine n_aload_n (i := 0) dX8_lackOf_0 rfl rfl ?_
  refine n_iconst (1 : Int32) dX8_lackOf_1 ic_1 ?_
  refine n_iconst (-1 : Int32) dX8_lackOf_2 ic_m1 ?_
  refine n_iconst (-1 : Int32) dX8_lackOf_3 ic_m1 ?_
  refine n_iload_n (i := 1) dX8_lackOf_4 rfl rfl ?_
  refine n_iconst (0 : Int32) dX8_lackOf_5 ic_0 ?_
  obtain ⟨q1, hq1, h⟩ := yb_bind h
  refine p_callVi (As := [.int (1 : Int32), .int (-1 : Int32), .int (-1 : Int32), .int a1, .int (0 : Int32)]) (t_X8_tells hq1) cv_X8_144 (sh_1 _ _) rfl rfl (Nat.le_of_ble_eq_true rfl) dX8_lackOf_6 (yb_rok (Nat.le_of_ble_eq_true rfl) (by decide)) ⟨rfl, rfl⟩ ⟨Nat.le_refl _, Nat.le_refl _⟩ (fun k2 => ?_)
  refine n_aload_n (i := 0) dX8_lackOf_9 rfl rfl ?_
  refine p_getr fl_X8_12 (sh_1 _ _) rfl (rR_1_0 _ _) dX8_lackOf_10 ?_
  refine p_getr fl_X8_79 (sh_2 _ _) rfl (rR_2_7 _ _) dX8_lackOf_13 ?_
  refine n_iload_n (i := 1) dX8_lackOf_16 rfl rfl ?_
  obtain ⟨v3, hv3, h⟩ := yb_bind h
  refine p_iald hv3 (sh_9 _ _) dX8_lackOf_17 ?_
  refine n_isub dX8_lackOf_18 ?_
  cases h
  exact n_iret dX8_lackOf_19 rfl rfl (Nat.le_refl _) (Nat.le_refl _) ⟨rfl, rfl⟩
set_option maxHeartbeats 4000000 in
set_option maxRecDepth 20000 in
theorem tj_X6_homeFor_107 {G : yb_G} {X : List (FieldType × Nat)} {rc7 : (Int32 → Int32 → Int32 → yb_S → Option (Int32 × yb_S))} {x1 : Int32} {x2 : Int32} {x3 : Int32} {x4 : Int32} {s : yb_S} {out : (Int32 × yb_S)} (hrc7 : ∀ (x2' : Int32) (x3' : Int32) (x4' : Int32) (s' : yb_S), rc7 x2' x3' x4' s' = some out → Rn G RX6 cX6_homeFor 7 (Option.some .int) false (yb_rm 6) (yb_qi X out.2 out.1) 0 0 7 [some (.ref (yb_ad G 100)), some (.int x1), some (.int x2'), some (.int x3'), some (.int x4'), none, none] [] (yb_mk s' X)) (h : j_X6_homeFor_107 rc7 x1 x2 x3 x4 s = some out) : Rn G RX6 cX6_homeFor 7 (Option.some .int) false (yb_rm 6) (yb_qi X out.2 out.1) 0 0 107 [some (.ref (yb_ad G 100)), some (.int x1), some (.int x2), some (.int x3), some (.int x4), none, none] [] (yb_mk s X) := by
  unfold j_X6_homeFor_107 at h
  refine n_iinc (vs' := [some (.ref (yb_ad G 100)), some (.int x1), some (.int x2), some (.int x3), some (.int (x4 + (1 : Int32))), none, none]) dX6_homeFor_107 rfl (ii_1 _) (Nat.le_of_ble_eq_true rfl) rfl rfl ?_
  refine n_goto 7 dX6_homeFor_110 (by decide) ?_
  exact p_jump (hrc7 x2 x3 (x4 + (1 : Int32)) s h) (And.intro rfl (And.intro rfl (And.intro rfl (And.intro rfl (And.intro rfl trivial)))))
set_option maxHeartbeats 4000000 in
set_option maxRecDepth 20000 in
theorem tj_X6_homeFor_101 {G : yb_G} {X : List (FieldType × Nat)} {rc7 : (Int32 → Int32 → Int32 → yb_S → Option (Int32 × yb_S))} {x1 : Int32} {x4 : Int32} {x6 : Int32} {s : yb_S} {out : (Int32 × yb_S)} (hrc7 : ∀ (x2' : Int32) (x3' : Int32) (x4' : Int32) (s' : yb_S), rc7 x2' x3' x4' s' = some out → Rn G RX6 cX6_homeFor 7 (Option.some .int) false (yb_rm 6) (yb_qi X out.2 out.1) 0 0 7 [some (.ref (yb_ad G 100)), some (.int x1), some (.int x2'), some (.int x3'), some (.int x4'), none, none] [] (yb_mk s' X)) (h : j_X6_homeFor_101 rc7 x1 x4 x6 s = some out) : Rn G RX6 cX6_homeFor 7 (Option.some .int) false (yb_rm 6) (yb_qi X out.2 out.1) 0 0 101 [some (.ref (yb_ad G 100)), some (.int x1), none, none, some (.int x4), none, some (.int x6)] [] (yb_mk s X) := by
  unfold j_X6_homeFor_101 at h
  refine n_iload dX6_homeFor_101 rfl ?_
  refine n_istore_n (i := 2) (vs' := [some (.ref (yb_ad G 100)), some (.int x1), some (.int x4), none, some (.int x4), none, some (.int x6)]) dX6_homeFor_103 rfl (Nat.le_of_ble_eq_true rfl) rfl rfl ?_
  refine n_iload dX6_homeFor_104 rfl ?_
  refine n_istore_n (i := 3) (vs' := [some (.ref (yb_ad G 100)), some (.int x1), some (.int x4), some (.int x6), some (.int x4), none, some (.int x6)]) dX6_homeFor_106 rfl (Nat.le_of_ble_eq_true rfl) rfl rfl ?_
  exact p_jump (tj_X6_homeFor_107 hrc7 h) (And.intro rfl (And.intro rfl (And.intro rfl (And.intro rfl (And.intro rfl trivial)))))
set_option maxHeartbeats 4000000 in
set_option maxRecDepth 20000 in
theorem t_l_X6_homeFor_7 {G : yb_G} {X : List (FieldType × Nat)} {x1 : Int32} {out : (Int32 × yb_S)} : ∀ (k0 : Nat) (x2 : Int32) (x3 : Int32) (x4 : Int32) (s : yb_S), l_X6_homeFor_7 x1 k0 x2 x3 x4 s = some out → Rn G RX6 cX6_homeFor 7 (Option.some .int) false (yb_rm 6) (yb_qi X out.2 out.1) 0 0 7 [some (.ref (yb_ad G 100)), some (.int x1), some (.int x2), some (.int x3), some (.int x4), none, none] [] (yb_mk s X) := by
  intro k0
  induction k0 with
  | zero => intro x2 x3 x4 s h; cases h
  | succ k0 ih =>
    intro x2 x3 x4 s h
    have h : f_X6_homeFor_7 (fun x2 x3 x4 s => l_X6_homeFor_7 x1 k0 x2 x3 x4 s) x1 x2 x3 x4 s = some out := h
    have hrc7 := ih
    unfold f_X6_homeFor_7 at h
    refine n_iload dX6_homeFor_7 rfl ?_
    refine n_aload_n (i := 0) dX6_homeFor_9 rfl rfl ?_
    refine p_getr fl_X6_23 (sh_100 _ _) rfl (rR_100_0 _ _) dX6_homeFor_10 ?_
    refine p_getr fl_X6_66 (sh_1 _ _) rfl (rR_1_1 _ _) dX6_homeFor_13 ?_
    refine p_geti fl_X6_70 (sh_13 _ _) rfl dX6_homeFor_16 ?_
    refine n_icmp_ge 113 dX6_homeFor_19 (by decide) (fun c1 => ?_) (fun c1 => ?_)
    · have h := yb_ifp c1 h
      refine n_iload_n (i := 2) dX6_homeFor_113 rfl rfl ?_
      cases h
      exact n_iret dX6_homeFor_114 rfl rfl (Nat.le_refl _) (Nat.le_refl _) ⟨rfl, rfl⟩
    · have h := yb_ifn c1 h
      refine n_aload_n (i := 0) dX6_homeFor_22 rfl rfl ?_
      refine p_getr fl_X6_23 (sh_100 _ _) rfl (rR_100_0 _ _) dX6_homeFor_23 ?_
      refine n_iload_n (i := 1) dX6_homeFor_26 rfl rfl ?_
      refine n_iload dX6_homeFor_27 rfl ?_
      obtain ⟨q2, hq2, h⟩ := yb_bind h
      refine p_callVi (As := [.int x1, .int x4]) (t_X8_barOf hq2) cv_X6_73 (sh_1 _ _) rfl rfl (Nat.le_of_ble_eq_true rfl) dX6_homeFor_29 (yb_rok (Nat.le_of_ble_eq_true rfl) (by decide)) ⟨rfl, rfl⟩ ⟨Nat.le_refl _, Nat.le_refl _⟩ (fun k3 => ?_)
      refine n_if_ne 107 dX6_homeFor_32 (by decide) (fun c4 => ?_) (fun c4 => ?_)
      · have h := yb_ifn c4 h
        exact p_jump (tj_X6_homeFor_107 hrc7 h) (And.intro rfl (And.intro rfl (And.intro rfl (And.intro rfl (And.intro rfl trivial)))))
      · have h := yb_ifp c4 h
        refine n_aload_n (i := 0) dX6_homeFor_35 rfl rfl ?_
        refine p_getr fl_X6_23 (sh_100 _ _) rfl (rR_100_0 _ _) dX6_homeFor_36 ?_
        refine p_getr fl_X6_66 (sh_1 _ _) rfl (rR_1_1 _ _) dX6_homeFor_39 ?_
        refine p_getr fl_X6_77 (sh_13 _ _) rfl (rR_13_1 _ _) dX6_homeFor_42 ?_
        refine n_iload dX6_homeFor_45 rfl ?_
        obtain ⟨v5, hv5, h⟩ := yb_bind h
        refine p_iald hv5 (sh_14 _ _) dX6_homeFor_47 ?_
        refine n_istore (i := 5) (vs' := [some (.ref (yb_ad G 100)), some (.int x1), some (.int x2), some (.int x3), some (.int x4), some (.int v5), none]) dX6_homeFor_48 (Nat.le_of_ble_eq_true rfl) rfl rfl ?_
        refine n_sipush (1000 : Int32) dX6_homeFor_50 sp_1000 ?_
        refine n_aload_n (i := 0) dX6_homeFor_53 rfl rfl ?_
        refine p_getr fl_X6_23 (sh_100 _ _) rfl (rR_100_0 _ _) dX6_homeFor_54 ?_
        refine n_iload_n (i := 1) dX6_homeFor_57 rfl rfl ?_
        refine n_iload dX6_homeFor_58 rfl ?_
        obtain ⟨q6, hq6, h⟩ := yb_bind h
        refine p_callVi (As := [.int x1, .int v5]) (t_X8_kinIn hq6) cv_X6_80 (sh_1 _ _) rfl rfl (Nat.le_of_ble_eq_true rfl) dX6_homeFor_60 (yb_rok (Nat.le_of_ble_eq_true rfl) (by decide)) ⟨rfl, rfl⟩ ⟨Nat.le_refl _, Nat.le_refl _⟩ (fun k7 => ?_)
        refine n_imul dX6_homeFor_63 ?_
        refine n_bipush (100 : Int32) dX6_homeFor_64 bp_100 ?_
        refine n_aload_n (i := 0) dX6_homeFor_66 rfl rfl ?_
        refine p_getr fl_X6_23 (sh_100 _ _) rfl (rR_100_0 _ _) dX6_homeFor_67 ?_
        refine n_iload_n (i := 1) dX6_homeFor_70 rfl rfl ?_
        refine n_iload dX6_homeFor_71 rfl ?_
        obtain ⟨q8, hq8, h⟩ := yb_bind h
        refine p_callVi (As := [.int x1, .int v5]) (t_X8_wishMet hq8) cv_X6_83 (sh_1 _ _) rfl rfl (Nat.le_of_ble_eq_true rfl) dX6_homeFor_73 (yb_rok (Nat.le_of_ble_eq_true rfl) (by decide)) ⟨rfl, rfl⟩ ⟨Nat.le_refl _, Nat.le_refl _⟩ (fun k9 => ?_)
        refine n_imul dX6_homeFor_76 ?_
        refine n_iadd dX6_homeFor_77 ?_
        refine n_aload_n (i := 0) dX6_homeFor_78 rfl rfl ?_
        refine p_getr fl_X6_23 (sh_100 _ _) rfl (rR_100_0 _ _) dX6_homeFor_79 ?_
        refine n_iload dX6_homeFor_82 rfl ?_
        obtain ⟨q10, hq10, h⟩ := yb_bind h
        refine p_callVi (As := [.int v5]) (t_X8_lackOf hq10) cv_X6_86 (sh_1 _ _) rfl rfl (Nat.le_of_ble_eq_true rfl) dX6_homeFor_84 (yb_rok (Nat.le_of_ble_eq_true rfl) (by decide)) ⟨rfl, rfl⟩ ⟨Nat.le_refl _, Nat.le_refl _⟩ (fun k11 => ?_)
        refine n_iadd dX6_homeFor_87 ?_
        refine n_istore (i := 6) (vs' := [some (.ref (yb_ad G 100)), some (.int x1), some (.int x2), some (.int x3), some (.int x4), some (.int v5), some (.int ((((1000 : Int32) * q6) + ((100 : Int32) * q8)) + q10.1))]) dX6_homeFor_88 (Nat.le_of_ble_eq_true rfl) rfl rfl ?_
        refine n_iload_n (i := 2) dX6_homeFor_90 rfl rfl ?_
        refine n_iconst (-1 : Int32) dX6_homeFor_91 ic_m1 ?_
        refine n_icmp_eq 101 dX6_homeFor_92 (by decide) (fun c12 => ?_) (fun c12 => ?_)
        · have h := yb_ifp c12 h
          exact p_jump (tj_X6_homeFor_101 hrc7 h) (And.intro rfl (And.intro rfl (And.intro rfl (And.intro rfl trivial))))
        · have h := yb_ifn c12 h
          refine n_iload dX6_homeFor_95 rfl ?_
          refine n_iload_n (i := 3) dX6_homeFor_97 rfl rfl ?_
          refine n_icmp_le 107 dX6_homeFor_98 (by decide) (fun c13 => ?_) (fun c13 => ?_)
          · have h := yb_ifp c13 h
            exact p_jump (tj_X6_homeFor_107 hrc7 h) (And.intro rfl (And.intro rfl (And.intro rfl (And.intro rfl (And.intro rfl trivial)))))
          · have h := yb_ifn c13 h
            exact p_jump (tj_X6_homeFor_101 hrc7 h) (And.intro rfl (And.intro rfl (And.intro rfl (And.intro rfl trivial))))
set_option maxHeartbeats 4000000 in
set_option maxRecDepth 20000 in
theorem tl_X6_homeFor_7 {G : yb_G} {X : List (FieldType × Nat)} {x1 : Int32} {out : (Int32 × yb_S)} {x2 : Int32} {x3 : Int32} {x4 : Int32} {s : yb_S} (h : l_X6_homeFor_7 x1 yb_N x2 x3 x4 s = some out) : Rn G RX6 cX6_homeFor 7 (Option.some .int) false (yb_rm 6) (yb_qi X out.2 out.1) 0 0 7 [some (.ref (yb_ad G 100)), some (.int x1), some (.int x2), some (.int x3), some (.int x4), none, none] [] (yb_mk s X) := t_l_X6_homeFor_7 _ _ _ _ _ h
set_option maxHeartbeats 4000000 in
set_option maxRecDepth 20000 in
theorem t_X6_homeFor {G : yb_G} {X : List (FieldType × Nat)} {a1 : Int32} {s : yb_S} {out : (Int32 × yb_S)} (h : f_X6_homeFor a1 s = some out) : Ct G yX6_homeFor cX6_homeFor 7 (Option.some .int) (yb_rm 6) [.ref (yb_ad G 100), .int a1] (yb_mk s X) (yb_qi X out.2 out.1) := by
  refine Ct.of (own := RX6) (ini := false) (vs := [some (.ref (yb_ad G 100)), some (.int a1), none, none, none, none, none]) ⟨rfl, by decide +kernel⟩ (fun h => by cases h) (Nat.le_of_ble_eq_true rfl) rfl ?_
  unfold f_X6_homeFor at h
  refine n_iconst (-1 : Int32) dX6_homeFor_0 ic_m1 ?_
  refine n_istore_n (i := 2) (vs' := [some (.ref (yb_ad G 100)), some (.int a1), some (.int (-1 : Int32)), none, none, none, none]) dX6_homeFor_1 rfl (Nat.le_of_ble_eq_true rfl) rfl rfl ?_
  refine n_iconst (0 : Int32) dX6_homeFor_2 ic_0 ?_
  refine n_istore_n (i := 3) (vs' := [some (.ref (yb_ad G 100)), some (.int a1), some (.int (-1 : Int32)), some (.int (0 : Int32)), none, none, none]) dX6_homeFor_3 rfl (Nat.le_of_ble_eq_true rfl) rfl rfl ?_
  refine n_iconst (0 : Int32) dX6_homeFor_4 ic_0 ?_
  refine n_istore (i := 4) (vs' := [some (.ref (yb_ad G 100)), some (.int a1), some (.int (-1 : Int32)), some (.int (0 : Int32)), some (.int (0 : Int32)), none, none]) dX6_homeFor_5 (Nat.le_of_ble_eq_true rfl) rfl rfl ?_
  exact p_jump (tl_X6_homeFor_7 h) (And.intro rfl (And.intro rfl (And.intro rfl (And.intro rfl (And.intro rfl trivial)))))
set_option maxHeartbeats 4000000 in
set_option maxRecDepth 20000 in
theorem t_X8_isIn {G : yb_G} {X : List (FieldType × Nat)} {a1 : Int32} {a2 : Int32} {s : yb_S} {out : Int32} (h : f_X8_isIn a1 a2 s = some out) : Ct G yX8_isIn cX8_isIn 3 (Option.some .boolean) (yb_rm 2) [.ref (yb_ad G 1), .int a1, .int a2] (yb_mk s X) (yb_qi X s out) := by
  refine Ct.of (own := RX8) (ini := false) (vs := [some (.ref (yb_ad G 1)), some (.int a1), some (.int a2)]) ⟨rfl, by decide +kernel⟩ (fun h => by cases h) (Nat.le_of_ble_eq_true rfl) rfl ?_
  unfold f_X8_isIn at h
  refine n_aload_n (i := 0) dX8_isIn_0 rfl rfl ?_
  refine p_getr fl_X8_28 (sh_1 _ _) rfl (rR_1_2 _ _) dX8_isIn_1 ?_
  refine n_iload_n (i := 1) dX8_isIn_4 rfl rfl ?_
  obtain ⟨q1, hq1, h⟩ := yb_bind h
  refine p_callVi (As := [.int a1]) (t_X2_has hq1) cv_X8_50 (sh_21 _ _) rfl rfl (Nat.le_of_ble_eq_true rfl) dX8_isIn_5 (yb_rok (Nat.le_of_ble_eq_true rfl) (by decide)) ⟨rfl, rfl⟩ ⟨Nat.le_refl _, Nat.le_refl _⟩ (fun k2 => ?_)
  refine n_if_eq 28 dX8_isIn_8 (by decide) (fun c3 => ?_) (fun c3 => ?_)
  · have h := yb_ifp c3 h
    refine n_iconst (0 : Int32) dX8_isIn_28 ic_0 ?_
    cases h
    exact n_iret dX8_isIn_29 rfl (by decide) (Nat.le_refl _) (Nat.le_refl _) ⟨rfl, rfl⟩
  · have h := yb_ifn c3 h
    refine n_aload_n (i := 0) dX8_isIn_11 rfl rfl ?_
    refine p_getr fl_X8_28 (sh_1 _ _) rfl (rR_1_2 _ _) dX8_isIn_12 ?_
    refine p_getr fl_X8_54 (sh_21 _ _) rfl (rR_21_7 _ _) dX8_isIn_15 ?_
    refine n_iload_n (i := 1) dX8_isIn_18 rfl rfl ?_
    obtain ⟨v4, hv4, h⟩ := yb_bind h
    refine p_iald hv4 (sh_28 _ _) dX8_isIn_19 ?_
    refine n_iload_n (i := 2) dX8_isIn_20 rfl rfl ?_
    refine n_icmp_ne 28 dX8_isIn_21 (by decide) (fun c5 => ?_) (fun c5 => ?_)
    · have h := yb_ifn c5 h
      refine n_iconst (0 : Int32) dX8_isIn_28 ic_0 ?_
      cases h
      exact n_iret dX8_isIn_29 rfl (by decide) (Nat.le_refl _) (Nat.le_refl _) ⟨rfl, rfl⟩
    · have h := yb_ifp c5 h
      refine n_iconst (1 : Int32) dX8_isIn_24 ic_1 ?_
      refine n_goto 29 dX8_isIn_25 (by decide) ?_
      cases h
      exact n_iret dX8_isIn_29 rfl (by decide) (Nat.le_refl _) (Nat.le_refl _) ⟨rfl, rfl⟩
set_option maxHeartbeats 4000000 in
set_option maxRecDepth 20000 in
theorem t_X8_settle {G : yb_G} {X : List (FieldType × Nat)} {a1 : Int32} {a2 : Int32} {s : yb_S} {out : yb_S} (h : f_X8_settle a1 a2 s = some out) : Ct G yX8_settle cX8_settle 4 none (yb_rm 3) [.ref (yb_ad G 1), .int a1, .int a2] (yb_mk s X) (yb_qv X out) := by
  refine Ct.of (own := RX8) (ini := false) (vs := [some (.ref (yb_ad G 1)), some (.int a1), some (.int a2), none]) ⟨rfl, by decide +kernel⟩ (fun h => by cases h) (Nat.le_of_ble_eq_true rfl) rfl ?_
  unfold f_X8_settle at h
  refine n_aload_n (i := 0) dX8_settle_0 rfl rfl ?_
  refine n_iload_n (i := 1) dX8_settle_1 rfl rfl ?_
  refine n_iconst (0 : Int32) dX8_settle_2 ic_0 ?_
  obtain ⟨q1, hq1, h⟩ := yb_bind h
  refine p_callVi (As := [.int a1, .int (0 : Int32)]) (t_X8_isIn hq1) cv_X8_64 (sh_1 _ _) rfl rfl (Nat.le_of_ble_eq_true rfl) dX8_settle_3 (yb_rok (Nat.le_of_ble_eq_true rfl) (by decide)) ⟨rfl, rfl⟩ ⟨Nat.le_refl _, Nat.le_refl _⟩ (fun k2 => ?_)
  refine n_if_eq 20 dX8_settle_6 (by decide) (fun c3 => ?_) (fun c3 => ?_)
  · have h := yb_ifp c3 h
    cases h
    exact n_vret dX8_settle_20 rfl (Nat.le_refl _) (Nat.le_refl _) ⟨rfl, rfl⟩
  · have h := yb_ifn c3 h
    refine n_aload_n (i := 0) dX8_settle_9 rfl rfl ?_
    refine p_getr fl_X8_21 (sh_1 _ _) rfl (rR_1_1 _ _) dX8_settle_10 ?_
    refine n_iload_n (i := 2) dX8_settle_13 rfl rfl ?_
    obtain ⟨q4, hq4, h⟩ := yb_bind h
    refine p_callVi (As := [.int a2]) (t_X4_has hq4) cv_X8_68 (sh_13 _ _) rfl rfl (Nat.le_of_ble_eq_true rfl) dX8_settle_14 (yb_rok (Nat.le_of_ble_eq_true rfl) (by decide)) ⟨rfl, rfl⟩ ⟨Nat.le_refl _, Nat.le_refl _⟩ (fun k5 => ?_)
    refine n_if_ne 21 dX8_settle_17 (by decide) (fun c6 => ?_) (fun c6 => ?_)
    · have h := yb_ifn c6 h
      refine n_aload_n (i := 0) dX8_settle_21 rfl rfl ?_
      refine p_getr fl_X8_21 (sh_1 _ _) rfl (rR_1_1 _ _) dX8_settle_22 ?_
      refine p_getr fl_X8_69 (sh_13 _ _) rfl (rR_13_1 _ _) dX8_settle_25 ?_
      refine n_iload_n (i := 2) dX8_settle_28 rfl rfl ?_
      obtain ⟨v7, hv7, h⟩ := yb_bind h
      refine p_iald hv7 (sh_14 _ _) dX8_settle_29 ?_
      refine n_istore_n (i := 3) (vs' := [some (.ref (yb_ad G 1)), some (.int a1), some (.int a2), some (.int v7)]) dX8_settle_30 rfl (Nat.le_of_ble_eq_true rfl) rfl rfl ?_
      refine n_aload_n (i := 0) dX8_settle_31 rfl rfl ?_
      refine p_getr fl_X8_28 (sh_1 _ _) rfl (rR_1_2 _ _) dX8_settle_32 ?_
      refine p_getr fl_X8_54 (sh_21 _ _) rfl (rR_21_7 _ _) dX8_settle_35 ?_
      refine n_iload_n (i := 1) dX8_settle_38 rfl rfl ?_
      refine n_iconst (1 : Int32) dX8_settle_39 ic_1 ?_
      obtain ⟨s8, hs8, h⟩ := yb_bind h
      refine p_iast hs8 (sh_28 _ _) dX8_settle_40 ?_
      refine n_aload_n (i := 0) dX8_settle_41 rfl rfl ?_
      refine p_getr fl_X8_28 (sh_1 _ _) rfl (rR_1_2 _ _) dX8_settle_42 ?_
      refine p_getr fl_X8_72 (sh_21 _ _) rfl (rR_21_8 _ _) dX8_settle_45 ?_
      refine n_iload_n (i := 1) dX8_settle_48 rfl rfl ?_
      refine n_iload_n (i := 2) dX8_settle_49 rfl rfl ?_
      obtain ⟨s9, hs9, h⟩ := yb_bind h
      refine p_iast hs9 (sh_29 _ _) dX8_settle_50 ?_
      refine n_aload_n (i := 0) dX8_settle_51 rfl rfl ?_
      refine p_getr fl_X8_28 (sh_1 _ _) rfl (rR_1_2 _ _) dX8_settle_52 ?_
      refine p_getr fl_X8_75 (sh_21 _ _) rfl (rR_21_9 _ _) dX8_settle_55 ?_
      refine n_iload_n (i := 1) dX8_settle_58 rfl rfl ?_
      refine n_iload_n (i := 3) dX8_settle_59 rfl rfl ?_
      obtain ⟨s10, hs10, h⟩ := yb_bind h
      refine p_iast hs10 (sh_30 _ _) dX8_settle_60 ?_
      refine n_aload_n (i := 0) dX8_settle_61 rfl rfl ?_
      refine p_getr fl_X8_21 (sh_1 _ _) rfl (rR_1_1 _ _) dX8_settle_62 ?_
      refine p_getr fl_X8_76 (sh_13 _ _) rfl (rR_13_7 _ _) dX8_settle_65 ?_
      refine n_iload_n (i := 2) dX8_settle_68 rfl rfl ?_
      refine n_iload_n (i := 1) dX8_settle_69 rfl rfl ?_
      obtain ⟨s11, hs11, h⟩ := yb_bind h
      refine p_iast hs11 (sh_20 _ _) dX8_settle_70 ?_
      refine n_aload_n (i := 0) dX8_settle_71 rfl rfl ?_
      refine p_getr fl_X8_12 (sh_1 _ _) rfl (rR_1_0 _ _) dX8_settle_72 ?_
      refine p_getr fl_X8_79 (sh_2 _ _) rfl (rR_2_7 _ _) dX8_settle_75 ?_
      refine n_iload_n (i := 3) dX8_settle_78 rfl rfl ?_
      refine n_dup2 dX8_settle_79 rfl rfl ?_
      obtain ⟨v12, hv12, h⟩ := yb_bind h
      refine p_iald hv12 (sh_9 _ _) dX8_settle_80 ?_
      refine n_aload_n (i := 0) dX8_settle_81 rfl rfl ?_
      refine p_getr fl_X8_28 (sh_1 _ _) rfl (rR_1_2 _ _) dX8_settle_82 ?_
      refine p_getr fl_X8_61 (sh_21 _ _) rfl (rR_21_1 _ _) dX8_settle_85 ?_
      refine n_iload_n (i := 1) dX8_settle_88 rfl rfl ?_
      obtain ⟨v13, hv13, h⟩ := yb_bind h
      refine p_iald hv13 (sh_22 _ _) dX8_settle_89 ?_
      refine n_iadd dX8_settle_90 ?_
      obtain ⟨s14, hs14, h⟩ := yb_bind h
      refine p_iast hs14 (sh_9 _ _) dX8_settle_91 ?_
      refine n_aload_n (i := 0) dX8_settle_92 rfl rfl ?_
      refine p_getr fl_X8_12 (sh_1 _ _) rfl (rR_1_0 _ _) dX8_settle_93 ?_
      refine p_getr fl_X8_80 (sh_2 _ _) rfl (rR_2_8 _ _) dX8_settle_96 ?_
      refine n_iload_n (i := 3) dX8_settle_99 rfl rfl ?_
      refine n_dup2 dX8_settle_100 rfl rfl ?_
      obtain ⟨v15, hv15, h⟩ := yb_bind h
      refine p_iald hv15 (sh_10 _ _) dX8_settle_101 ?_
      refine n_aload_n (i := 0) dX8_settle_102 rfl rfl ?_
      refine p_getr fl_X8_28 (sh_1 _ _) rfl (rR_1_2 _ _) dX8_settle_103 ?_
      refine p_getr fl_X8_83 (sh_21 _ _) rfl (rR_21_2 _ _) dX8_settle_106 ?_
      refine n_iload_n (i := 1) dX8_settle_109 rfl rfl ?_
      obtain ⟨v16, hv16, h⟩ := yb_bind h
      refine p_iald hv16 (sh_23 _ _) dX8_settle_110 ?_
      refine n_iadd dX8_settle_111 ?_
      obtain ⟨s17, hs17, h⟩ := yb_bind h
      refine p_iast hs17 (sh_10 _ _) dX8_settle_112 ?_
      refine n_aload_n (i := 0) dX8_settle_113 rfl rfl ?_
      refine p_getr fl_X8_12 (sh_1 _ _) rfl (rR_1_0 _ _) dX8_settle_114 ?_
      refine p_getr fl_X8_84 (sh_2 _ _) rfl (rR_2_9 _ _) dX8_settle_117 ?_
      refine n_iload_n (i := 3) dX8_settle_120 rfl rfl ?_
      refine n_dup2 dX8_settle_121 rfl rfl ?_
      obtain ⟨v18, hv18, h⟩ := yb_bind h
      refine p_iald hv18 (sh_11 _ _) dX8_settle_122 ?_
      refine n_iconst (1 : Int32) dX8_settle_123 ic_1 ?_
      refine n_iload_n (i := 1) dX8_settle_124 rfl rfl ?_
      refine n_ishl dX8_settle_125 ?_
      refine n_ior dX8_settle_126 ?_
      obtain ⟨s19, hs19, h⟩ := yb_bind h
      refine p_iast hs19 (sh_11 _ _) dX8_settle_127 ?_
      cases h
      exact n_vret dX8_settle_128 rfl (Nat.le_refl _) (Nat.le_refl _) ⟨rfl, rfl⟩
    · have h := yb_ifp c6 h
      cases h
      exact n_vret dX8_settle_20 rfl (Nat.le_refl _) (Nat.le_refl _) ⟨rfl, rfl⟩
set_option maxHeartbeats 4000000 in
set_option maxRecDepth 20000 in
theorem tj_X6_noteWhys_55 {G : yb_G} {X : List (FieldType × Nat)} {rc2 : (Int32 → yb_S → Option yb_S)} {x1 : Int32} {x2 : Int32} {x3 : Int32} {s : yb_S} {out : yb_S} (hrc2 : ∀ (x3' : Int32) (s' : yb_S), rc2 x3' s' = some out → Rn G RX6 cX6_noteWhys 5 none false (yb_rm 6) (yb_qv X out) 0 0 2 [some (.ref (yb_ad G 100)), some (.int x1), some (.int x2), some (.int x3'), none] [] (yb_mk s' X)) (h : j_X6_noteWhys_55 rc2 x1 x2 x3 s = some out) : Rn G RX6 cX6_noteWhys 5 none false (yb_rm 6) (yb_qv X out) 0 0 55 [some (.ref (yb_ad G 100)), some (.int x1), some (.int x2), some (.int x3), none] [] (yb_mk s X) := by
  unfold j_X6_noteWhys_55 at h
  refine n_iinc (vs' := [some (.ref (yb_ad G 100)), some (.int x1), some (.int x2), some (.int (x3 + (1 : Int32))), none]) dX6_noteWhys_55 rfl (ii_1 _) (Nat.le_of_ble_eq_true rfl) rfl rfl ?_
  refine n_goto 2 dX6_noteWhys_58 (by decide) ?_
  exact p_jump (hrc2 (x3 + (1 : Int32)) s h) (And.intro rfl (And.intro rfl (And.intro rfl (And.intro rfl trivial))))
set_option maxHeartbeats 4000000 in
set_option maxRecDepth 20000 in
theorem t_l_X6_noteWhys_2 {G : yb_G} {X : List (FieldType × Nat)} {x1 : Int32} {x2 : Int32} {out : yb_S} : ∀ (k0 : Nat) (x3 : Int32) (s : yb_S), l_X6_noteWhys_2 x1 x2 k0 x3 s = some out → Rn G RX6 cX6_noteWhys 5 none false (yb_rm 6) (yb_qv X out) 0 0 2 [some (.ref (yb_ad G 100)), some (.int x1), some (.int x2), some (.int x3), none] [] (yb_mk s X) := by
  intro k0
  induction k0 with
  | zero => intro x3 s h; cases h
  | succ k0 ih =>
    intro x3 s h
    have h : f_X6_noteWhys_2 (fun x3 s => l_X6_noteWhys_2 x1 x2 k0 x3 s) x1 x2 x3 s = some out := h
    have hrc2 := ih
    unfold f_X6_noteWhys_2 at h
    refine n_iload_n (i := 3) dX6_noteWhys_2 rfl rfl ?_
    refine n_iload_n (i := 1) dX6_noteWhys_3 rfl rfl ?_
    refine n_icmp_ge 61 dX6_noteWhys_4 (by decide) (fun c1 => ?_) (fun c1 => ?_)
    · have h := yb_ifp c1 h
      cases h
      exact n_vret dX6_noteWhys_61 rfl (Nat.le_refl _) (Nat.le_refl _) ⟨rfl, rfl⟩
    · have h := yb_ifn c1 h
      refine n_aload_n (i := 0) dX6_noteWhys_7 rfl rfl ?_
      refine p_getr fl_X6_9 (sh_100 _ _) rfl (rR_100_1 _ _) dX6_noteWhys_8 ?_
      refine n_iload_n (i := 3) dX6_noteWhys_11 rfl rfl ?_
      obtain ⟨v2, hv2, h⟩ := yb_bind h
      refine p_iald hv2 (sh_101 _ _) dX6_noteWhys_12 ?_
      refine n_istore (i := 4) (vs' := [some (.ref (yb_ad G 100)), some (.int x1), some (.int x2), some (.int x3), some (.int v2)]) dX6_noteWhys_13 (Nat.le_of_ble_eq_true rfl) rfl rfl ?_
      refine n_aload_n (i := 0) dX6_noteWhys_15 rfl rfl ?_
      refine p_getr fl_X6_23 (sh_100 _ _) rfl (rR_100_0 _ _) dX6_noteWhys_16 ?_
      refine p_getr fl_X6_27 (sh_1 _ _) rfl (rR_1_2 _ _) dX6_noteWhys_19 ?_
      refine p_getr fl_X6_45 (sh_21 _ _) rfl (rR_21_7 _ _) dX6_noteWhys_22 ?_
      refine n_iload dX6_noteWhys_25 rfl ?_
      obtain ⟨v3, hv3, h⟩ := yb_bind h
      refine p_iald hv3 (sh_28 _ _) dX6_noteWhys_27 ?_
      refine n_if_ne 55 dX6_noteWhys_28 (by decide) (fun c4 => ?_) (fun c4 => ?_)
      · have h := yb_ifn c4 h
        exact p_jump (tj_X6_noteWhys_55 hrc2 h) (And.intro rfl (And.intro rfl (And.intro rfl (And.intro rfl trivial))))
      · have h := yb_ifp c4 h
        refine n_aload_n (i := 0) dX6_noteWhys_31 rfl rfl ?_
        refine p_getr fl_X6_20 (sh_100 _ _) rfl (rR_100_3 _ _) dX6_noteWhys_32 ?_
        refine n_iload dX6_noteWhys_35 rfl ?_
        obtain ⟨r5, hr5, h⟩ := yb_bind h
        refine p_aald hr5 (sh_103 _ _) (by decide) rfl (rF_103 _ _) dX6_noteWhys_37 ?_
        refine n_aload_n (i := 0) dX6_noteWhys_38 rfl rfl ?_
        refine p_getr fl_X6_9 (sh_100 _ _) rfl (rR_100_1 _ _) dX6_noteWhys_39 ?_
        refine n_iload_n (i := 1) dX6_noteWhys_42 rfl rfl ?_
        obtain ⟨v6, hv6, h⟩ := yb_bind h
        refine p_iald hv6 (sh_101 _ _) dX6_noteWhys_43 ?_
        refine n_aload_n (i := 0) dX6_noteWhys_44 rfl rfl ?_
        refine p_getr fl_X6_23 (sh_100 _ _) rfl (rR_100_0 _ _) dX6_noteWhys_45 ?_
        refine n_iload dX6_noteWhys_48 rfl ?_
        refine n_iload_n (i := 2) dX6_noteWhys_50 rfl rfl ?_
        obtain ⟨q7, hq7, h⟩ := yb_bind h
        refine p_callVi (As := [.int v2, .int x2]) (t_X8_barOf hq7) cv_X6_73 (sh_1 _ _) rfl rfl (Nat.le_of_ble_eq_true rfl) dX6_noteWhys_51 (yb_rok (Nat.le_of_ble_eq_true rfl) (by decide)) ⟨rfl, rfl⟩ ⟨Nat.le_refl _, Nat.le_refl _⟩ (fun k8 => ?_)
        obtain ⟨s9, hs9, h⟩ := yb_bind h
        refine p_iast hs9 (shF_103 hr5 _ _) dX6_noteWhys_54 ?_
        exact p_jump (tj_X6_noteWhys_55 hrc2 h) (And.intro rfl (And.intro rfl (And.intro rfl (And.intro rfl trivial))))
set_option maxHeartbeats 4000000 in
set_option maxRecDepth 20000 in
theorem tl_X6_noteWhys_2 {G : yb_G} {X : List (FieldType × Nat)} {x1 : Int32} {x2 : Int32} {out : yb_S} {x3 : Int32} {s : yb_S} (h : l_X6_noteWhys_2 x1 x2 yb_N x3 s = some out) : Rn G RX6 cX6_noteWhys 5 none false (yb_rm 6) (yb_qv X out) 0 0 2 [some (.ref (yb_ad G 100)), some (.int x1), some (.int x2), some (.int x3), none] [] (yb_mk s X) := t_l_X6_noteWhys_2 _ _ _ h
set_option maxHeartbeats 4000000 in
set_option maxRecDepth 20000 in
theorem t_X6_noteWhys {G : yb_G} {X : List (FieldType × Nat)} {a1 : Int32} {a2 : Int32} {s : yb_S} {out : yb_S} (h : f_X6_noteWhys a1 a2 s = some out) : Ct G yX6_noteWhys cX6_noteWhys 5 none (yb_rm 6) [.ref (yb_ad G 100), .int a1, .int a2] (yb_mk s X) (yb_qv X out) := by
  refine Ct.of (own := RX6) (ini := false) (vs := [some (.ref (yb_ad G 100)), some (.int a1), some (.int a2), none, none]) ⟨rfl, by decide +kernel⟩ (fun h => by cases h) (Nat.le_of_ble_eq_true rfl) rfl ?_
  unfold f_X6_noteWhys at h
  refine n_iconst (0 : Int32) dX6_noteWhys_0 ic_0 ?_
  refine n_istore_n (i := 3) (vs' := [some (.ref (yb_ad G 100)), some (.int a1), some (.int a2), some (.int (0 : Int32)), none]) dX6_noteWhys_1 rfl (Nat.le_of_ble_eq_true rfl) rfl rfl ?_
  exact p_jump (tl_X6_noteWhys_2 h) (And.intro rfl (And.intro rfl (And.intro rfl (And.intro rfl trivial))))
set_option maxHeartbeats 4000000 in
set_option maxRecDepth 20000 in
theorem tj_X6_placeAll_59 {G : yb_G} {X : List (FieldType × Nat)} {rc4 : (Int32 → Int32 → yb_S → Option (Int32 × yb_S))} {x1 : Int32} {x2 : Int32} {x3 : Int32} {s : yb_S} {out : (Int32 × yb_S)} (hrc4 : ∀ (x2' : Int32) (x3' : Int32) (s' : yb_S), rc4 x2' x3' s' = some out → Rn G RX6 cX6_placeAll 5 (Option.some .int) false (yb_rm 7) (yb_qi X out.2 out.1) 0 0 4 [some (.ref (yb_ad G 100)), some (.int x1), some (.int x2'), some (.int x3'), none] [] (yb_mk s' X)) (h : j_X6_placeAll_59 rc4 x1 x2 x3 s = some out) : Rn G RX6 cX6_placeAll 5 (Option.some .int) false (yb_rm 7) (yb_qi X out.2 out.1) 0 0 59 [some (.ref (yb_ad G 100)), some (.int x1), some (.int x2), some (.int x3), none] [] (yb_mk s X) := by
  unfold j_X6_placeAll_59 at h
  refine n_iinc (vs' := [some (.ref (yb_ad G 100)), some (.int x1), some (.int x2), some (.int (x3 + (1 : Int32))), none]) dX6_placeAll_59 rfl (ii_1 _) (Nat.le_of_ble_eq_true rfl) rfl rfl ?_
  refine n_goto 4 dX6_placeAll_62 (by decide) ?_
  exact p_jump (hrc4 x2 (x3 + (1 : Int32)) s h) (And.intro rfl (And.intro rfl (And.intro rfl (And.intro rfl trivial))))
set_option maxHeartbeats 4000000 in
set_option maxRecDepth 20000 in
theorem tj_X6_placeAll_41 {G : yb_G} {X : List (FieldType × Nat)} {rc4 : (Int32 → Int32 → yb_S → Option (Int32 × yb_S))} {x1 : Int32} {x2 : Int32} {x3 : Int32} {x4 : Int32} {s : yb_S} {out : (Int32 × yb_S)} (hrc4 : ∀ (x2' : Int32) (x3' : Int32) (s' : yb_S), rc4 x2' x3' s' = some out → Rn G RX6 cX6_placeAll 5 (Option.some .int) false (yb_rm 7) (yb_qi X out.2 out.1) 0 0 4 [some (.ref (yb_ad G 100)), some (.int x1), some (.int x2'), some (.int x3'), none] [] (yb_mk s' X)) (h : j_X6_placeAll_41 rc4 x1 x2 x3 x4 s = some out) : Rn G RX6 cX6_placeAll 5 (Option.some .int) false (yb_rm 7) (yb_qi X out.2 out.1) 0 0 41 [some (.ref (yb_ad G 100)), some (.int x1), some (.int x2), some (.int x3), some (.int x4)] [] (yb_mk s X) := by
  unfold j_X6_placeAll_41 at h
  refine n_aload_n (i := 0) dX6_placeAll_41 rfl rfl ?_
  refine p_getr fl_X6_23 (sh_100 _ _) rfl (rR_100_0 _ _) dX6_placeAll_42 ?_
  refine n_aload_n (i := 0) dX6_placeAll_45 rfl rfl ?_
  refine p_getr fl_X6_9 (sh_100 _ _) rfl (rR_100_1 _ _) dX6_placeAll_46 ?_
  refine n_iload_n (i := 3) dX6_placeAll_49 rfl rfl ?_
  obtain ⟨v7, hv7, h⟩ := yb_bind h
  refine p_iald hv7 (sh_101 _ _) dX6_placeAll_50 ?_
  refine n_iload dX6_placeAll_51 rfl ?_
  obtain ⟨q8, hq8, h⟩ := yb_bind h
  refine p_callVv (As := [.int v7, .int x4]) (t_X8_settle hq8) cv_X6_63 (sh_1 _ _) rfl rfl (Nat.le_of_ble_eq_true rfl) dX6_placeAll_53 (yb_rok (Nat.le_of_ble_eq_true rfl) (by decide)) ⟨rfl, rfl⟩ ⟨Nat.le_refl _, Nat.le_refl _⟩ (fun k9 => ?_)
  refine n_iinc (vs' := [some (.ref (yb_ad G 100)), some (.int x1), some (.int (x2 + (1 : Int32))), some (.int x3), some (.int x4)]) dX6_placeAll_56 rfl (ii_1 _) (Nat.le_of_ble_eq_true rfl) rfl rfl ?_
  exact p_jump (tj_X6_placeAll_59 hrc4 h) (And.intro rfl (And.intro rfl (And.intro rfl (And.intro rfl trivial))))
set_option maxHeartbeats 4000000 in
set_option maxRecDepth 20000 in
theorem t_l_X6_placeAll_4 {G : yb_G} {X : List (FieldType × Nat)} {x1 : Int32} {out : (Int32 × yb_S)} : ∀ (k0 : Nat) (x2 : Int32) (x3 : Int32) (s : yb_S), l_X6_placeAll_4 x1 k0 x2 x3 s = some out → Rn G RX6 cX6_placeAll 5 (Option.some .int) false (yb_rm 7) (yb_qi X out.2 out.1) 0 0 4 [some (.ref (yb_ad G 100)), some (.int x1), some (.int x2), some (.int x3), none] [] (yb_mk s X) := by
  intro k0
  induction k0 with
  | zero => intro x2 x3 s h; cases h
  | succ k0 ih =>
    intro x2 x3 s h
    have h : f_X6_placeAll_4 (fun x2 x3 s => l_X6_placeAll_4 x1 k0 x2 x3 s) x1 x2 x3 s = some out := h
    have hrc4 := ih
    unfold f_X6_placeAll_4 at h
    refine n_iload_n (i := 3) dX6_placeAll_4 rfl rfl ?_
    refine n_aload_n (i := 0) dX6_placeAll_5 rfl rfl ?_
    refine p_geti fl_X6_42 (sh_100 _ _) rfl dX6_placeAll_6 ?_
    refine n_icmp_ge 65 dX6_placeAll_9 (by decide) (fun c1 => ?_) (fun c1 => ?_)
    · have h := yb_ifp c1 h
      refine n_iload_n (i := 2) dX6_placeAll_65 rfl rfl ?_
      cases h
      exact n_iret dX6_placeAll_66 rfl rfl (Nat.le_refl _) (Nat.le_refl _) ⟨rfl, rfl⟩
    · have h := yb_ifn c1 h
      refine n_aload_n (i := 0) dX6_placeAll_12 rfl rfl ?_
      refine n_aload_n (i := 0) dX6_placeAll_13 rfl rfl ?_
      refine p_getr fl_X6_9 (sh_100 _ _) rfl (rR_100_1 _ _) dX6_placeAll_14 ?_
      refine n_iload_n (i := 3) dX6_placeAll_17 rfl rfl ?_
      obtain ⟨v2, hv2, h⟩ := yb_bind h
      refine p_iald hv2 (sh_101 _ _) dX6_placeAll_18 ?_
      obtain ⟨q3, hq3, h⟩ := yb_bind h
      refine p_callVi (As := [.int v2]) (t_X6_homeFor hq3) cv_X6_56 (sh_100 _ _) rfl rfl (Nat.le_of_ble_eq_true rfl) dX6_placeAll_19 (yb_rok (Nat.le_of_ble_eq_true rfl) (by decide)) ⟨rfl, rfl⟩ ⟨Nat.le_refl _, Nat.le_refl _⟩ (fun k4 => ?_)
      refine n_istore (i := 4) (vs' := [some (.ref (yb_ad G 100)), some (.int x1), some (.int x2), some (.int x3), some (.int q3.1)]) dX6_placeAll_22 (Nat.le_of_ble_eq_true rfl) rfl rfl ?_
      refine n_iload dX6_placeAll_24 rfl ?_
      refine n_iconst (-1 : Int32) dX6_placeAll_26 ic_m1 ?_
      refine n_icmp_eq 59 dX6_placeAll_27 (by decide) (fun c5 => ?_) (fun c5 => ?_)
      · have h := yb_ifp c5 h
        exact p_jump (tj_X6_placeAll_59 hrc4 h) (And.intro rfl (And.intro rfl (And.intro rfl (And.intro rfl trivial))))
      · have h := yb_ifn c5 h
        refine n_iload_n (i := 1) dX6_placeAll_30 rfl rfl ?_
        refine n_if_eq 41 dX6_placeAll_31 (by decide) (fun c6 => ?_) (fun c6 => ?_)
        · have h := yb_ifp c6 h
          exact p_jump (tj_X6_placeAll_41 hrc4 h) (And.intro rfl (And.intro rfl (And.intro rfl (And.intro rfl (And.intro rfl trivial)))))
        · have h := yb_ifn c6 h
          refine n_aload_n (i := 0) dX6_placeAll_34 rfl rfl ?_
          refine n_iload_n (i := 3) dX6_placeAll_35 rfl rfl ?_
          refine n_iload dX6_placeAll_36 rfl ?_
          obtain ⟨q10, hq10, h⟩ := yb_bind h
          refine p_callVv (As := [.int x3, .int q3.1]) (t_X6_noteWhys hq10) cv_X6_59 (sh_100 _ _) rfl rfl (Nat.le_of_ble_eq_true rfl) dX6_placeAll_38 (yb_rok (Nat.le_of_ble_eq_true rfl) (by decide)) ⟨rfl, rfl⟩ ⟨Nat.le_refl _, Nat.le_refl _⟩ (fun k11 => ?_)
          exact p_jump (tj_X6_placeAll_41 hrc4 h) (And.intro rfl (And.intro rfl (And.intro rfl (And.intro rfl (And.intro rfl trivial)))))
set_option maxHeartbeats 4000000 in
set_option maxRecDepth 20000 in
theorem tl_X6_placeAll_4 {G : yb_G} {X : List (FieldType × Nat)} {x1 : Int32} {out : (Int32 × yb_S)} {x2 : Int32} {x3 : Int32} {s : yb_S} (h : l_X6_placeAll_4 x1 yb_N x2 x3 s = some out) : Rn G RX6 cX6_placeAll 5 (Option.some .int) false (yb_rm 7) (yb_qi X out.2 out.1) 0 0 4 [some (.ref (yb_ad G 100)), some (.int x1), some (.int x2), some (.int x3), none] [] (yb_mk s X) := t_l_X6_placeAll_4 _ _ _ _ h
set_option maxHeartbeats 4000000 in
set_option maxRecDepth 20000 in
theorem t_X6_placeAll {G : yb_G} {X : List (FieldType × Nat)} {a1 : Int32} {s : yb_S} {out : (Int32 × yb_S)} (h : f_X6_placeAll a1 s = some out) : Ct G yX6_placeAll cX6_placeAll 5 (Option.some .int) (yb_rm 7) [.ref (yb_ad G 100), .int a1] (yb_mk s X) (yb_qi X out.2 out.1) := by
  refine Ct.of (own := RX6) (ini := false) (vs := [some (.ref (yb_ad G 100)), some (.int a1), none, none, none]) ⟨rfl, by decide +kernel⟩ (fun h => by cases h) (Nat.le_of_ble_eq_true rfl) rfl ?_
  unfold f_X6_placeAll at h
  refine n_iconst (0 : Int32) dX6_placeAll_0 ic_0 ?_
  refine n_istore_n (i := 2) (vs' := [some (.ref (yb_ad G 100)), some (.int a1), some (.int (0 : Int32)), none, none]) dX6_placeAll_1 rfl (Nat.le_of_ble_eq_true rfl) rfl rfl ?_
  refine n_iconst (0 : Int32) dX6_placeAll_2 ic_0 ?_
  refine n_istore_n (i := 3) (vs' := [some (.ref (yb_ad G 100)), some (.int a1), some (.int (0 : Int32)), some (.int (0 : Int32)), none]) dX6_placeAll_3 rfl (Nat.le_of_ble_eq_true rfl) rfl rfl ?_
  exact p_jump (tl_X6_placeAll_4 h) (And.intro rfl (And.intro rfl (And.intro rfl (And.intro rfl trivial))))
set_option maxHeartbeats 4000000 in
set_option maxRecDepth 20000 in
theorem t_X8_unsettle {G : yb_G} {X : List (FieldType × Nat)} {a1 : Int32} {s : yb_S} {out : yb_S} (h : f_X8_unsettle a1 s = some out) : Ct G yX8_unsettle cX8_unsettle 3 none (yb_rm 3) [.ref (yb_ad G 1), .int a1] (yb_mk s X) (yb_qv X out) := by
  refine Ct.of (own := RX8) (ini := false) (vs := [some (.ref (yb_ad G 1)), some (.int a1), none]) ⟨rfl, by decide +kernel⟩ (fun h => by cases h) (Nat.le_of_ble_eq_true rfl) rfl ?_
  unfold f_X8_unsettle at h
  refine n_aload_n (i := 0) dX8_unsettle_0 rfl rfl ?_
  refine n_iload_n (i := 1) dX8_unsettle_1 rfl rfl ?_
  refine n_iconst (1 : Int32) dX8_unsettle_2 ic_1 ?_
  obtain ⟨q1, hq1, h⟩ := yb_bind h
  refine p_callVi (As := [.int a1, .int (1 : Int32)]) (t_X8_isIn hq1) cv_X8_64 (sh_1 _ _) rfl rfl (Nat.le_of_ble_eq_true rfl) dX8_unsettle_3 (yb_rok (Nat.le_of_ble_eq_true rfl) (by decide)) ⟨rfl, rfl⟩ ⟨Nat.le_refl _, Nat.le_refl _⟩ (fun k2 => ?_)
  refine n_if_ne 10 dX8_unsettle_6 (by decide) (fun c3 => ?_) (fun c3 => ?_)
  · have h := yb_ifn c3 h
    refine n_aload_n (i := 0) dX8_unsettle_10 rfl rfl ?_
    refine p_getr fl_X8_28 (sh_1 _ _) rfl (rR_1_2 _ _) dX8_unsettle_11 ?_
    refine p_getr fl_X8_75 (sh_21 _ _) rfl (rR_21_9 _ _) dX8_unsettle_14 ?_
    refine n_iload_n (i := 1) dX8_unsettle_17 rfl rfl ?_
    obtain ⟨v4, hv4, h⟩ := yb_bind h
    refine p_iald hv4 (sh_30 _ _) dX8_unsettle_18 ?_
    refine n_istore_n (i := 2) (vs' := [some (.ref (yb_ad G 1)), some (.int a1), some (.int v4)]) dX8_unsettle_19 rfl (Nat.le_of_ble_eq_true rfl) rfl rfl ?_
    refine n_aload_n (i := 0) dX8_unsettle_20 rfl rfl ?_
    refine p_getr fl_X8_21 (sh_1 _ _) rfl (rR_1_1 _ _) dX8_unsettle_21 ?_
    refine p_getr fl_X8_76 (sh_13 _ _) rfl (rR_13_7 _ _) dX8_unsettle_24 ?_
    refine n_aload_n (i := 0) dX8_unsettle_27 rfl rfl ?_
    refine p_getr fl_X8_28 (sh_1 _ _) rfl (rR_1_2 _ _) dX8_unsettle_28 ?_
    refine p_getr fl_X8_72 (sh_21 _ _) rfl (rR_21_8 _ _) dX8_unsettle_31 ?_
    refine n_iload_n (i := 1) dX8_unsettle_34 rfl rfl ?_
    obtain ⟨v5, hv5, h⟩ := yb_bind h
    refine p_iald hv5 (sh_29 _ _) dX8_unsettle_35 ?_
    refine n_iconst (-1 : Int32) dX8_unsettle_36 ic_m1 ?_
    obtain ⟨s6, hs6, h⟩ := yb_bind h
    refine p_iast hs6 (sh_20 _ _) dX8_unsettle_37 ?_
    refine n_aload_n (i := 0) dX8_unsettle_38 rfl rfl ?_
    refine p_getr fl_X8_28 (sh_1 _ _) rfl (rR_1_2 _ _) dX8_unsettle_39 ?_
    refine p_getr fl_X8_54 (sh_21 _ _) rfl (rR_21_7 _ _) dX8_unsettle_42 ?_
    refine n_iload_n (i := 1) dX8_unsettle_45 rfl rfl ?_
    refine n_iconst (0 : Int32) dX8_unsettle_46 ic_0 ?_
    obtain ⟨s7, hs7, h⟩ := yb_bind h
    refine p_iast hs7 (sh_28 _ _) dX8_unsettle_47 ?_
    refine n_aload_n (i := 0) dX8_unsettle_48 rfl rfl ?_
    refine p_getr fl_X8_28 (sh_1 _ _) rfl (rR_1_2 _ _) dX8_unsettle_49 ?_
    refine p_getr fl_X8_72 (sh_21 _ _) rfl (rR_21_8 _ _) dX8_unsettle_52 ?_
    refine n_iload_n (i := 1) dX8_unsettle_55 rfl rfl ?_
    refine n_iconst (-1 : Int32) dX8_unsettle_56 ic_m1 ?_
    obtain ⟨s8, hs8, h⟩ := yb_bind h
    refine p_iast hs8 (sh_29 _ _) dX8_unsettle_57 ?_
    refine n_aload_n (i := 0) dX8_unsettle_58 rfl rfl ?_
    refine p_getr fl_X8_28 (sh_1 _ _) rfl (rR_1_2 _ _) dX8_unsettle_59 ?_
    refine p_getr fl_X8_75 (sh_21 _ _) rfl (rR_21_9 _ _) dX8_unsettle_62 ?_
    refine n_iload_n (i := 1) dX8_unsettle_65 rfl rfl ?_
    refine n_iconst (-1 : Int32) dX8_unsettle_66 ic_m1 ?_
    obtain ⟨s9, hs9, h⟩ := yb_bind h
    refine p_iast hs9 (sh_30 _ _) dX8_unsettle_67 ?_
    refine n_aload_n (i := 0) dX8_unsettle_68 rfl rfl ?_
    refine p_getr fl_X8_12 (sh_1 _ _) rfl (rR_1_0 _ _) dX8_unsettle_69 ?_
    refine p_getr fl_X8_79 (sh_2 _ _) rfl (rR_2_7 _ _) dX8_unsettle_72 ?_
    refine n_iload_n (i := 2) dX8_unsettle_75 rfl rfl ?_
    refine n_dup2 dX8_unsettle_76 rfl rfl ?_
    obtain ⟨v10, hv10, h⟩ := yb_bind h
    refine p_iald hv10 (sh_9 _ _) dX8_unsettle_77 ?_
    refine n_aload_n (i := 0) dX8_unsettle_78 rfl rfl ?_
    refine p_getr fl_X8_28 (sh_1 _ _) rfl (rR_1_2 _ _) dX8_unsettle_79 ?_
    refine p_getr fl_X8_61 (sh_21 _ _) rfl (rR_21_1 _ _) dX8_unsettle_82 ?_
    refine n_iload_n (i := 1) dX8_unsettle_85 rfl rfl ?_
    obtain ⟨v11, hv11, h⟩ := yb_bind h
    refine p_iald hv11 (sh_22 _ _) dX8_unsettle_86 ?_
    refine n_isub dX8_unsettle_87 ?_
    obtain ⟨s12, hs12, h⟩ := yb_bind h
    refine p_iast hs12 (sh_9 _ _) dX8_unsettle_88 ?_
    refine n_aload_n (i := 0) dX8_unsettle_89 rfl rfl ?_
    refine p_getr fl_X8_12 (sh_1 _ _) rfl (rR_1_0 _ _) dX8_unsettle_90 ?_
    refine p_getr fl_X8_80 (sh_2 _ _) rfl (rR_2_8 _ _) dX8_unsettle_93 ?_
    refine n_iload_n (i := 2) dX8_unsettle_96 rfl rfl ?_
    refine n_dup2 dX8_unsettle_97 rfl rfl ?_
    obtain ⟨v13, hv13, h⟩ := yb_bind h
    refine p_iald hv13 (sh_10 _ _) dX8_unsettle_98 ?_
    refine n_aload_n (i := 0) dX8_unsettle_99 rfl rfl ?_
    refine p_getr fl_X8_28 (sh_1 _ _) rfl (rR_1_2 _ _) dX8_unsettle_100 ?_
    refine p_getr fl_X8_83 (sh_21 _ _) rfl (rR_21_2 _ _) dX8_unsettle_103 ?_
    refine n_iload_n (i := 1) dX8_unsettle_106 rfl rfl ?_
    obtain ⟨v14, hv14, h⟩ := yb_bind h
    refine p_iald hv14 (sh_23 _ _) dX8_unsettle_107 ?_
    refine n_isub dX8_unsettle_108 ?_
    obtain ⟨s15, hs15, h⟩ := yb_bind h
    refine p_iast hs15 (sh_10 _ _) dX8_unsettle_109 ?_
    refine n_aload_n (i := 0) dX8_unsettle_110 rfl rfl ?_
    refine p_getr fl_X8_12 (sh_1 _ _) rfl (rR_1_0 _ _) dX8_unsettle_111 ?_
    refine p_getr fl_X8_84 (sh_2 _ _) rfl (rR_2_9 _ _) dX8_unsettle_114 ?_
    refine n_iload_n (i := 2) dX8_unsettle_117 rfl rfl ?_
    refine n_dup2 dX8_unsettle_118 rfl rfl ?_
    obtain ⟨v16, hv16, h⟩ := yb_bind h
    refine p_iald hv16 (sh_11 _ _) dX8_unsettle_119 ?_
    refine n_iconst (1 : Int32) dX8_unsettle_120 ic_1 ?_
    refine n_iload_n (i := 1) dX8_unsettle_121 rfl rfl ?_
    refine n_ishl dX8_unsettle_122 ?_
    refine n_iconst (-1 : Int32) dX8_unsettle_123 ic_m1 ?_
    refine n_ixor dX8_unsettle_124 ?_
    refine n_iand dX8_unsettle_125 ?_
    obtain ⟨s17, hs17, h⟩ := yb_bind h
    refine p_iast hs17 (sh_11 _ _) dX8_unsettle_126 ?_
    cases h
    exact n_vret dX8_unsettle_127 rfl (Nat.le_refl _) (Nat.le_refl _) ⟨rfl, rfl⟩
  · have h := yb_ifp c3 h
    cases h
    exact n_vret dX8_unsettle_9 rfl (Nat.le_refl _) (Nat.le_refl _) ⟨rfl, rfl⟩
set_option maxHeartbeats 4000000 in
set_option maxRecDepth 20000 in
theorem tj_X6_takeBack_58 {G : yb_G} {X : List (FieldType × Nat)} {rc4 : (Int32 → Int32 → yb_S → Option (Int32 × yb_S))} {x1 : Int32} {x2 : Int32} {s : yb_S} {out : (Int32 × yb_S)} (hrc4 : ∀ (x1' : Int32) (x2' : Int32) (s' : yb_S), rc4 x1' x2' s' = some out → Rn G RX6 cX6_takeBack 4 (Option.some .int) false (yb_rm 4) (yb_qi X out.2 out.1) 0 0 4 [some (.ref (yb_ad G 100)), some (.int x1'), some (.int x2'), none] [] (yb_mk s' X)) (h : j_X6_takeBack_58 rc4 x1 x2 s = some out) : Rn G RX6 cX6_takeBack 4 (Option.some .int) false (yb_rm 4) (yb_qi X out.2 out.1) 0 0 58 [some (.ref (yb_ad G 100)), some (.int x1), some (.int x2), none] [] (yb_mk s X) := by
  unfold j_X6_takeBack_58 at h
  refine n_iinc (vs' := [some (.ref (yb_ad G 100)), some (.int x1), some (.int (x2 + (1 : Int32))), none]) dX6_takeBack_58 rfl (ii_1 _) (Nat.le_of_ble_eq_true rfl) rfl rfl ?_
  refine n_goto 4 dX6_takeBack_61 (by decide) ?_
  exact p_jump (hrc4 x1 (x2 + (1 : Int32)) s h) (And.intro rfl (And.intro rfl (And.intro rfl trivial)))
set_option maxHeartbeats 4000000 in
set_option maxRecDepth 20000 in
theorem t_l_X6_takeBack_4 {G : yb_G} {X : List (FieldType × Nat)} {out : (Int32 × yb_S)} : ∀ (k0 : Nat) (x1 : Int32) (x2 : Int32) (s : yb_S), l_X6_takeBack_4 k0 x1 x2 s = some out → Rn G RX6 cX6_takeBack 4 (Option.some .int) false (yb_rm 4) (yb_qi X out.2 out.1) 0 0 4 [some (.ref (yb_ad G 100)), some (.int x1), some (.int x2), none] [] (yb_mk s X) := by
  intro k0
  induction k0 with
  | zero => intro x1 x2 s h; cases h
  | succ k0 ih =>
    intro x1 x2 s h
    have h : f_X6_takeBack_4 (fun x1 x2 s => l_X6_takeBack_4 k0 x1 x2 s) x1 x2 s = some out := h
    have hrc4 := ih
    unfold f_X6_takeBack_4 at h
    refine n_iload_n (i := 2) dX6_takeBack_4 rfl rfl ?_
    refine n_aload_n (i := 0) dX6_takeBack_5 rfl rfl ?_
    refine p_geti fl_X6_42 (sh_100 _ _) rfl dX6_takeBack_6 ?_
    refine n_icmp_ge 64 dX6_takeBack_9 (by decide) (fun c1 => ?_) (fun c1 => ?_)
    · have h := yb_ifp c1 h
      refine n_iload_n (i := 1) dX6_takeBack_64 rfl rfl ?_
      cases h
      exact n_iret dX6_takeBack_65 rfl rfl (Nat.le_refl _) (Nat.le_refl _) ⟨rfl, rfl⟩
    · have h := yb_ifn c1 h
      refine n_aload_n (i := 0) dX6_takeBack_12 rfl rfl ?_
      refine p_getr fl_X6_9 (sh_100 _ _) rfl (rR_100_1 _ _) dX6_takeBack_13 ?_
      refine n_iload_n (i := 2) dX6_takeBack_16 rfl rfl ?_
      obtain ⟨v2, hv2, h⟩ := yb_bind h
      refine p_iald hv2 (sh_101 _ _) dX6_takeBack_17 ?_
      refine n_istore_n (i := 3) (vs' := [some (.ref (yb_ad G 100)), some (.int x1), some (.int x2), some (.int v2)]) dX6_takeBack_18 rfl (Nat.le_of_ble_eq_true rfl) rfl rfl ?_
      refine n_aload_n (i := 0) dX6_takeBack_19 rfl rfl ?_
      refine p_getr fl_X6_23 (sh_100 _ _) rfl (rR_100_0 _ _) dX6_takeBack_20 ?_
      refine p_getr fl_X6_27 (sh_1 _ _) rfl (rR_1_2 _ _) dX6_takeBack_23 ?_
      refine p_getr fl_X6_45 (sh_21 _ _) rfl (rR_21_7 _ _) dX6_takeBack_26 ?_
      refine n_iload_n (i := 3) dX6_takeBack_29 rfl rfl ?_
      obtain ⟨v3, hv3, h⟩ := yb_bind h
      refine p_iald hv3 (sh_28 _ _) dX6_takeBack_30 ?_
      refine n_iconst (1 : Int32) dX6_takeBack_31 ic_1 ?_
      refine n_icmp_ne 58 dX6_takeBack_32 (by decide) (fun c4 => ?_) (fun c4 => ?_)
      · have h := yb_ifn c4 h
        exact p_jump (tj_X6_takeBack_58 hrc4 h) (And.intro rfl (And.intro rfl (And.intro rfl trivial)))
      · have h := yb_ifp c4 h
        refine n_iload_n (i := 1) dX6_takeBack_35 rfl rfl ?_
        refine n_aload_n (i := 0) dX6_takeBack_36 rfl rfl ?_
        refine p_getr fl_X6_23 (sh_100 _ _) rfl (rR_100_0 _ _) dX6_takeBack_37 ?_
        refine p_getr fl_X6_27 (sh_1 _ _) rfl (rR_1_2 _ _) dX6_takeBack_40 ?_
        refine p_getr fl_X6_89 (sh_21 _ _) rfl (rR_21_1 _ _) dX6_takeBack_43 ?_
        refine n_iload_n (i := 3) dX6_takeBack_46 rfl rfl ?_
        obtain ⟨v5, hv5, h⟩ := yb_bind h
        refine p_iald hv5 (sh_22 _ _) dX6_takeBack_47 ?_
        refine n_iadd dX6_takeBack_48 ?_
        refine n_istore_n (i := 1) (vs' := [some (.ref (yb_ad G 100)), some (.int (x1 + v5)), some (.int x2), some (.int v2)]) dX6_takeBack_49 rfl (Nat.le_of_ble_eq_true rfl) rfl rfl ?_
        refine n_aload_n (i := 0) dX6_takeBack_50 rfl rfl ?_
        refine p_getr fl_X6_23 (sh_100 _ _) rfl (rR_100_0 _ _) dX6_takeBack_51 ?_
        refine n_iload_n (i := 3) dX6_takeBack_54 rfl rfl ?_
        obtain ⟨q6, hq6, h⟩ := yb_bind h
        refine p_callVv (As := [.int v2]) (t_X8_unsettle hq6) cv_X6_92 (sh_1 _ _) rfl rfl (Nat.le_of_ble_eq_true rfl) dX6_takeBack_55 (yb_rok (Nat.le_of_ble_eq_true rfl) (by decide)) ⟨rfl, rfl⟩ ⟨Nat.le_refl _, Nat.le_refl _⟩ (fun k7 => ?_)
        exact p_jump (tj_X6_takeBack_58 hrc4 h) (And.intro rfl (And.intro rfl (And.intro rfl trivial)))
set_option maxHeartbeats 4000000 in
set_option maxRecDepth 20000 in
theorem tl_X6_takeBack_4 {G : yb_G} {X : List (FieldType × Nat)} {out : (Int32 × yb_S)} {x1 : Int32} {x2 : Int32} {s : yb_S} (h : l_X6_takeBack_4 yb_N x1 x2 s = some out) : Rn G RX6 cX6_takeBack 4 (Option.some .int) false (yb_rm 4) (yb_qi X out.2 out.1) 0 0 4 [some (.ref (yb_ad G 100)), some (.int x1), some (.int x2), none] [] (yb_mk s X) := t_l_X6_takeBack_4 _ _ _ _ h
set_option maxHeartbeats 4000000 in
set_option maxRecDepth 20000 in
theorem t_X6_takeBack {G : yb_G} {X : List (FieldType × Nat)} {s : yb_S} {out : (Int32 × yb_S)} (h : f_X6_takeBack s = some out) : Ct G yX6_takeBack cX6_takeBack 4 (Option.some .int) (yb_rm 4) [.ref (yb_ad G 100)] (yb_mk s X) (yb_qi X out.2 out.1) := by
  refine Ct.of (own := RX6) (ini := false) (vs := [some (.ref (yb_ad G 100)), none, none, none]) ⟨rfl, by decide +kernel⟩ (fun h => by cases h) (Nat.le_of_ble_eq_true rfl) rfl ?_
  unfold f_X6_takeBack at h
  refine n_iconst (0 : Int32) dX6_takeBack_0 ic_0 ?_
  refine n_istore_n (i := 1) (vs' := [some (.ref (yb_ad G 100)), some (.int (0 : Int32)), none, none]) dX6_takeBack_1 rfl (Nat.le_of_ble_eq_true rfl) rfl rfl ?_
  refine n_iconst (0 : Int32) dX6_takeBack_2 ic_0 ?_
  refine n_istore_n (i := 2) (vs' := [some (.ref (yb_ad G 100)), some (.int (0 : Int32)), some (.int (0 : Int32)), none]) dX6_takeBack_3 rfl (Nat.le_of_ble_eq_true rfl) rfl rfl ?_
  exact p_jump (tl_X6_takeBack_4 h) (And.intro rfl (And.intro rfl (And.intro rfl trivial)))
set_option maxHeartbeats 4000000 in
set_option maxRecDepth 20000 in
theorem t_X11_beside {G : yb_G} {X : List (FieldType × Nat)} {a1 : Int32} {s : yb_S} {out : (Int32 × yb_S)} (h : f_X11_beside a1 s = some out) : Ct G yX11_beside cX11_beside 3 (Option.some .int) (yb_rm 8) [.ref (yb_ad G 0), .int a1] (yb_mk s X) (yb_qi X out.2 out.1) := by
  refine Ct.of (own := RX11) (ini := false) (vs := [some (.ref (yb_ad G 0)), some (.int a1), none]) ⟨rfl, by decide +kernel⟩ (fun h => by cases h) (Nat.le_of_ble_eq_true rfl) rfl ?_
  unfold f_X11_beside at h
  refine n_aload_n (i := 0) dX11_beside_0 rfl rfl ?_
  refine p_getr fl_X11_10 (sh_0 _ _) rfl (rR_0_0 _ _) dX11_beside_1 ?_
  refine p_getr fl_X11_197 (sh_1 _ _) rfl (rR_1_4 _ _) dX11_beside_4 ?_
  refine n_iload_n (i := 1) dX11_beside_7 rfl rfl ?_
  obtain ⟨q1, hq1, h⟩ := yb_bind h
  refine p_callVi (As := [.int a1]) (t_X5_has hq1) cv_X11_207 (sh_54 _ _) rfl rfl (Nat.le_of_ble_eq_true rfl) dX11_beside_8 (yb_rok (Nat.le_of_ble_eq_true rfl) (by decide)) ⟨rfl, rfl⟩ ⟨Nat.le_refl _, Nat.le_refl _⟩ (fun k2 => ?_)
  refine n_if_ne 16 dX11_beside_11 (by decide) (fun c3 => ?_) (fun c3 => ?_)
  · have h := yb_ifn c3 h
    refine n_aload_n (i := 0) dX11_beside_16 rfl rfl ?_
    refine p_getr fl_X11_10 (sh_0 _ _) rfl (rR_0_0 _ _) dX11_beside_17 ?_
    refine p_getr fl_X11_197 (sh_1 _ _) rfl (rR_1_4 _ _) dX11_beside_20 ?_
    refine n_iload_n (i := 1) dX11_beside_23 rfl rfl ?_
    obtain ⟨s4, hs4, h⟩ := yb_bind h
    refine p_puti hs4 fp_X11_334 (sh_54 _ _) rfl rfl rfl dX11_beside_24 ?_
    refine n_aload_n (i := 0) dX11_beside_27 rfl rfl ?_
    refine p_getr fl_X11_28 (sh_0 _ _) rfl (rR_0_2 _ _) dX11_beside_28 ?_
    obtain ⟨q5, hq5, h⟩ := yb_bind h
    refine p_callVv (As := []) (t_X6_lineUp hq5) cv_X11_230 (sh_100 _ _) rfl rfl (Nat.le_of_ble_eq_true rfl) dX11_beside_31 (yb_rok (Nat.le_of_ble_eq_true rfl) (by decide)) ⟨rfl, rfl⟩ ⟨Nat.le_refl _, Nat.le_refl _⟩ (fun k6 => ?_)
    refine n_aload_n (i := 0) dX11_beside_34 rfl rfl ?_
    refine p_getr fl_X11_28 (sh_0 _ _) rfl (rR_0_2 _ _) dX11_beside_35 ?_
    refine n_iconst (0 : Int32) dX11_beside_38 ic_0 ?_
    obtain ⟨q7, hq7, h⟩ := yb_bind h
    refine p_callVi (As := [.int (0 : Int32)]) (t_X6_placeAll hq7) cv_X11_233 (sh_100 _ _) rfl rfl (Nat.le_of_ble_eq_true rfl) dX11_beside_39 (yb_rok (Nat.le_of_ble_eq_true rfl) (by decide)) ⟨rfl, rfl⟩ ⟨Nat.le_refl _, Nat.le_refl _⟩ (fun k8 => ?_)
    refine n_pop dX11_beside_42 rfl ?_
    refine n_aload_n (i := 0) dX11_beside_43 rfl rfl ?_
    refine p_getr fl_X11_28 (sh_0 _ _) rfl (rR_0_2 _ _) dX11_beside_44 ?_
    obtain ⟨q9, hq9, h⟩ := yb_bind h
    refine p_callVi (As := []) (t_X6_takeBack hq9) cv_X11_337 (sh_100 _ _) rfl rfl (Nat.le_of_ble_eq_true rfl) dX11_beside_47 (yb_rok (Nat.le_of_ble_eq_true rfl) (by decide)) ⟨rfl, rfl⟩ ⟨Nat.le_refl _, Nat.le_refl _⟩ (fun k10 => ?_)
    refine n_istore_n (i := 2) (vs' := [some (.ref (yb_ad G 0)), some (.int a1), some (.int q9.1)]) dX11_beside_50 rfl (Nat.le_of_ble_eq_true rfl) rfl rfl ?_
    refine n_aload_n (i := 0) dX11_beside_51 rfl rfl ?_
    refine p_getr fl_X11_10 (sh_0 _ _) rfl (rR_0_0 _ _) dX11_beside_52 ?_
    refine p_getr fl_X11_197 (sh_1 _ _) rfl (rR_1_4 _ _) dX11_beside_55 ?_
    refine n_iconst (-1 : Int32) dX11_beside_58 ic_m1 ?_
    obtain ⟨s11, hs11, h⟩ := yb_bind h
    refine p_puti hs11 fp_X11_334 (sh_54 _ _) rfl rfl rfl dX11_beside_59 ?_
    refine n_iload_n (i := 2) dX11_beside_62 rfl rfl ?_
    cases h
    exact n_iret dX11_beside_63 rfl rfl (Nat.le_refl _) (Nat.le_refl _) ⟨rfl, rfl⟩
  · have h := yb_ifp c3 h
    refine n_iconst (-1 : Int32) dX11_beside_14 ic_m1 ?_
    cases h
    exact n_iret dX11_beside_15 rfl rfl (Nat.le_refl _) (Nat.le_refl _) ⟨rfl, rfl⟩
set_option maxHeartbeats 4000000 in
set_option maxRecDepth 20000 in
theorem tj_X1_unpacked_130_52 {G : yb_G} {X : List (FieldType × Nat)} {rc22 : (Int32 → Int32 → yb_S → Option (Int32 × yb_S))} {x0 : Int32} {x1 : Int32} {x3 : Int32} {x4 : Int32} {s : yb_S} {out : (Int32 × yb_S)} (hrc22 : ∀ (x3' : Int32) (x4' : Int32) (s' : yb_S), rc22 x3' x4' s' = some out → Rn G RX1 cX1_unpacked 5 (Option.some .int) false (yb_rm 2) (yb_qi X out.2 out.1) 0 0 22 [some (.int x0), some (.int x1), some (.ref (yb_ad G 130)), some (.int x3'), some (.int x4')] [] (yb_mk s' X)) (h : j_X1_unpacked_130_52 rc22 x0 x1 x3 x4 s = some out) : Rn G RX1 cX1_unpacked 5 (Option.some .int) false (yb_rm 2) (yb_qi X out.2 out.1) 0 0 52 [some (.int x0), some (.int x1), some (.ref (yb_ad G 130)), some (.int x3), some (.int x4)] [] (yb_mk s X) := by
  unfold j_X1_unpacked_130_52 at h
  refine n_iinc (vs' := [some (.int x0), some (.int x1), some (.ref (yb_ad G 130)), some (.int x3), some (.int (x4 + (1 : Int32)))]) dX1_unpacked_52 rfl (ii_1 _) (Nat.le_of_ble_eq_true rfl) rfl rfl ?_
  refine n_goto 22 dX1_unpacked_55 (by decide) ?_
  exact p_jump (hrc22 x3 (x4 + (1 : Int32)) s h) (And.intro rfl (And.intro rfl (And.intro rfl (And.intro rfl (And.intro rfl trivial)))))
set_option maxHeartbeats 4000000 in
set_option maxRecDepth 20000 in
theorem t_l_X1_unpacked_130_22 {G : yb_G} {X : List (FieldType × Nat)} {x0 : Int32} {x1 : Int32} {out : (Int32 × yb_S)} : ∀ (k0 : Nat) (x3 : Int32) (x4 : Int32) (s : yb_S), l_X1_unpacked_130_22 x0 x1 k0 x3 x4 s = some out → Rn G RX1 cX1_unpacked 5 (Option.some .int) false (yb_rm 2) (yb_qi X out.2 out.1) 0 0 22 [some (.int x0), some (.int x1), some (.ref (yb_ad G 130)), some (.int x3), some (.int x4)] [] (yb_mk s X) := by
  intro k0
  induction k0 with
  | zero => intro x3 x4 s h; cases h
  | succ k0 ih =>
    intro x3 x4 s h
    have h : f_X1_unpacked_130_22 (fun x3 x4 s => l_X1_unpacked_130_22 x0 x1 k0 x3 x4 s) x0 x1 x3 x4 s = some out := h
    have hrc22 := ih
    unfold f_X1_unpacked_130_22 at h
    refine n_iload dX1_unpacked_22 rfl ?_
    refine n_iload_n (i := 1) dX1_unpacked_24 rfl rfl ?_
    refine n_icmp_ge 58 dX1_unpacked_25 (by decide) (fun c5 => ?_) (fun c5 => ?_)
    · have h := yb_ifp c5 h
      refine n_iload_n (i := 3) dX1_unpacked_58 rfl rfl ?_
      cases h
      exact n_iret dX1_unpacked_59 rfl rfl (Nat.le_refl _) (Nat.le_refl _) ⟨rfl, rfl⟩
    · have h := yb_ifn c5 h
      refine n_iload_n (i := 3) dX1_unpacked_28 rfl rfl ?_
      refine n_aload_n (i := 2) dX1_unpacked_29 rfl rfl ?_
      refine p_alen (v := (6 : Int32)) (sh_130 _ _) (by decide) (by decide) dX1_unpacked_30 ?_
      refine n_icmp_ge 58 dX1_unpacked_31 (by decide) (fun c6 => ?_) (fun c6 => ?_)
      · have h := yb_ifp c6 h
        refine n_iload_n (i := 3) dX1_unpacked_58 rfl rfl ?_
        cases h
        exact n_iret dX1_unpacked_59 rfl rfl (Nat.le_refl _) (Nat.le_refl _) ⟨rfl, rfl⟩
      · have h := yb_ifn c6 h
        refine n_iload_n (i := 0) dX1_unpacked_34 rfl rfl ?_
        refine n_iload dX1_unpacked_35 rfl ?_
        refine n_ishr dX1_unpacked_37 ?_
        refine n_iconst (1 : Int32) dX1_unpacked_38 ic_1 ?_
        refine n_iand dX1_unpacked_39 ?_
        refine n_iconst (1 : Int32) dX1_unpacked_40 ic_1 ?_
        refine n_icmp_ne 52 dX1_unpacked_41 (by decide) (fun c7 => ?_) (fun c7 => ?_)
        · have h := yb_ifn c7 h
          exact p_jump (tj_X1_unpacked_130_52 hrc22 h) (And.intro rfl (And.intro rfl (And.intro rfl (And.intro rfl (And.intro rfl trivial)))))
        · have h := yb_ifp c7 h
          refine n_aload_n (i := 2) dX1_unpacked_44 rfl rfl ?_
          refine n_iload_n (i := 3) dX1_unpacked_45 rfl rfl ?_
          refine n_iload dX1_unpacked_46 rfl ?_
          obtain ⟨s8, hs8, h⟩ := yb_bind h
          refine p_iast hs8 (sh_130 _ _) dX1_unpacked_48 ?_
          refine n_iinc (vs' := [some (.int x0), some (.int x1), some (.ref (yb_ad G 130)), some (.int (x3 + (1 : Int32))), some (.int x4)]) dX1_unpacked_49 rfl (ii_1 _) (Nat.le_of_ble_eq_true rfl) rfl rfl ?_
          exact p_jump (tj_X1_unpacked_130_52 hrc22 h) (And.intro rfl (And.intro rfl (And.intro rfl (And.intro rfl (And.intro rfl trivial)))))
set_option maxHeartbeats 4000000 in
set_option maxRecDepth 20000 in
theorem tl_X1_unpacked_130_22 {G : yb_G} {X : List (FieldType × Nat)} {x0 : Int32} {x1 : Int32} {out : (Int32 × yb_S)} {x3 : Int32} {x4 : Int32} {s : yb_S} (h : l_X1_unpacked_130_22 x0 x1 yb_N x3 x4 s = some out) : Rn G RX1 cX1_unpacked 5 (Option.some .int) false (yb_rm 2) (yb_qi X out.2 out.1) 0 0 22 [some (.int x0), some (.int x1), some (.ref (yb_ad G 130)), some (.int x3), some (.int x4)] [] (yb_mk s X) := t_l_X1_unpacked_130_22 _ _ _ _ h
set_option maxHeartbeats 4000000 in
set_option maxRecDepth 20000 in
theorem t_X1_unpacked_130 {G : yb_G} {X : List (FieldType × Nat)} {a0 : Int32} {a1 : Int32} {s : yb_S} {out : (Int32 × yb_S)} (h : f_X1_unpacked_130 a0 a1 s = some out) : Ct G yX1_unpacked cX1_unpacked 5 (Option.some .int) (yb_rm 2) [.int a0, .int a1, .ref (yb_ad G 130)] (yb_mk s X) (yb_qi X out.2 out.1) := by
  refine Ct.of (own := RX1) (ini := false) (vs := [some (.int a0), some (.int a1), some (.ref (yb_ad G 130)), none, none]) ⟨rfl, by decide +kernel⟩ (fun h => by cases h) (Nat.le_of_ble_eq_true rfl) rfl ?_
  unfold f_X1_unpacked_130 at h
  refine n_iload_n (i := 0) dX1_unpacked_0 rfl rfl ?_
  refine n_iload_n (i := 1) dX1_unpacked_1 rfl rfl ?_
  refine n_iushr dX1_unpacked_2 ?_
  refine n_if_ne 15 dX1_unpacked_3 (by decide) (fun c1 => ?_) (fun c1 => ?_)
  · have h := yb_ifn c1 h
    refine n_iconst (0 : Int32) dX1_unpacked_15 ic_0 ?_
    cases h
    exact n_iret dX1_unpacked_16 rfl rfl (Nat.le_refl _) (Nat.le_refl _) ⟨rfl, rfl⟩
  · have h := yb_ifp c1 h
    refine n_iload_n (i := 0) dX1_unpacked_6 rfl rfl ?_
    obtain ⟨q2, hq2, h⟩ := yb_bind h
    refine p_callSi (As := [.int a0]) (t_J6_bitCount_0f7a4 hq2) cs_X1_74 rfl rfl (Nat.le_of_ble_eq_true rfl) dX1_unpacked_7 (yb_rok (Nat.le_of_ble_eq_true rfl) (by decide)) ⟨rfl, rfl⟩ ⟨Nat.le_refl _, Nat.le_refl _⟩ (fun k3 => ?_)
    refine n_aload_n (i := 2) dX1_unpacked_10 rfl rfl ?_
    refine p_alen (v := (6 : Int32)) (sh_130 _ _) (by decide) (by decide) dX1_unpacked_11 ?_
    refine n_icmp_le 17 dX1_unpacked_12 (by decide) (fun c4 => ?_) (fun c4 => ?_)
    · have h := yb_ifp c4 h
      refine n_iconst (0 : Int32) dX1_unpacked_17 ic_0 ?_
      refine n_istore_n (i := 3) (vs' := [some (.int a0), some (.int a1), some (.ref (yb_ad G 130)), some (.int (0 : Int32)), none]) dX1_unpacked_18 rfl (Nat.le_of_ble_eq_true rfl) rfl rfl ?_
      refine n_iconst (0 : Int32) dX1_unpacked_19 ic_0 ?_
      refine n_istore (i := 4) (vs' := [some (.int a0), some (.int a1), some (.ref (yb_ad G 130)), some (.int (0 : Int32)), some (.int (0 : Int32))]) dX1_unpacked_20 (Nat.le_of_ble_eq_true rfl) rfl rfl ?_
      exact p_jump (tl_X1_unpacked_130_22 h) (And.intro rfl (And.intro rfl (And.intro rfl (And.intro rfl (And.intro rfl trivial)))))
    · have h := yb_ifn c4 h
      refine n_iconst (0 : Int32) dX1_unpacked_15 ic_0 ?_
      cases h
      exact n_iret dX1_unpacked_16 rfl rfl (Nat.le_refl _) (Nat.le_refl _) ⟨rfl, rfl⟩
set_option maxHeartbeats 4000000 in
set_option maxRecDepth 20000 in
theorem tj_X1_unpacked_131_52 {G : yb_G} {X : List (FieldType × Nat)} {rc22 : (Int32 → Int32 → yb_S → Option (Int32 × yb_S))} {x0 : Int32} {x1 : Int32} {x3 : Int32} {x4 : Int32} {s : yb_S} {out : (Int32 × yb_S)} (hrc22 : ∀ (x3' : Int32) (x4' : Int32) (s' : yb_S), rc22 x3' x4' s' = some out → Rn G RX1 cX1_unpacked 5 (Option.some .int) false (yb_rm 2) (yb_qi X out.2 out.1) 0 0 22 [some (.int x0), some (.int x1), some (.ref (yb_ad G 131)), some (.int x3'), some (.int x4')] [] (yb_mk s' X)) (h : j_X1_unpacked_131_52 rc22 x0 x1 x3 x4 s = some out) : Rn G RX1 cX1_unpacked 5 (Option.some .int) false (yb_rm 2) (yb_qi X out.2 out.1) 0 0 52 [some (.int x0), some (.int x1), some (.ref (yb_ad G 131)), some (.int x3), some (.int x4)] [] (yb_mk s X) := by
  unfold j_X1_unpacked_131_52 at h
  refine n_iinc (vs' := [some (.int x0), some (.int x1), some (.ref (yb_ad G 131)), some (.int x3), some (.int (x4 + (1 : Int32)))]) dX1_unpacked_52 rfl (ii_1 _) (Nat.le_of_ble_eq_true rfl) rfl rfl ?_
  refine n_goto 22 dX1_unpacked_55 (by decide) ?_
  exact p_jump (hrc22 x3 (x4 + (1 : Int32)) s h) (And.intro rfl (And.intro rfl (And.intro rfl (And.intro rfl (And.intro rfl trivial)))))
set_option maxHeartbeats 4000000 in
set_option maxRecDepth 20000 in
theorem t_l_X1_unpacked_131_22 {G : yb_G} {X : List (FieldType × Nat)} {x0 : Int32} {x1 : Int32} {out : (Int32 × yb_S)} : ∀ (k0 : Nat) (x3 : Int32) (x4 : Int32) (s : yb_S), l_X1_unpacked_131_22 x0 x1 k0 x3 x4 s = some out → Rn G RX1 cX1_unpacked 5 (Option.some .int) false (yb_rm 2) (yb_qi X out.2 out.1) 0 0 22 [some (.int x0), some (.int x1), some (.ref (yb_ad G 131)), some (.int x3), some (.int x4)] [] (yb_mk s X) := by
  intro k0
  induction k0 with
  | zero => intro x3 x4 s h; cases h
  | succ k0 ih =>
    intro x3 x4 s h
    have h : f_X1_unpacked_131_22 (fun x3 x4 s => l_X1_unpacked_131_22 x0 x1 k0 x3 x4 s) x0 x1 x3 x4 s = some out := h
    have hrc22 := ih
    unfold f_X1_unpacked_131_22 at h
    refine n_iload dX1_unpacked_22 rfl ?_
    refine n_iload_n (i := 1) dX1_unpacked_24 rfl rfl ?_
    refine n_icmp_ge 58 dX1_unpacked_25 (by decide) (fun c5 => ?_) (fun c5 => ?_)
    · have h := yb_ifp c5 h
      refine n_iload_n (i := 3) dX1_unpacked_58 rfl rfl ?_
      cases h
      exact n_iret dX1_unpacked_59 rfl rfl (Nat.le_refl _) (Nat.le_refl _) ⟨rfl, rfl⟩
    · have h := yb_ifn c5 h
      refine n_iload_n (i := 3) dX1_unpacked_28 rfl rfl ?_
      refine n_aload_n (i := 2) dX1_unpacked_29 rfl rfl ?_
      refine p_alen (v := (6 : Int32)) (sh_131 _ _) (by decide) (by decide) dX1_unpacked_30 ?_
      refine n_icmp_ge 58 dX1_unpacked_31 (by decide) (fun c6 => ?_) (fun c6 => ?_)
      · have h := yb_ifp c6 h
        refine n_iload_n (i := 3) dX1_unpacked_58 rfl rfl ?_
        cases h
        exact n_iret dX1_unpacked_59 rfl rfl (Nat.le_refl _) (Nat.le_refl _) ⟨rfl, rfl⟩
      · have h := yb_ifn c6 h
        refine n_iload_n (i := 0) dX1_unpacked_34 rfl rfl ?_
        refine n_iload dX1_unpacked_35 rfl ?_
        refine n_ishr dX1_unpacked_37 ?_
        refine n_iconst (1 : Int32) dX1_unpacked_38 ic_1 ?_
        refine n_iand dX1_unpacked_39 ?_
        refine n_iconst (1 : Int32) dX1_unpacked_40 ic_1 ?_
        refine n_icmp_ne 52 dX1_unpacked_41 (by decide) (fun c7 => ?_) (fun c7 => ?_)
        · have h := yb_ifn c7 h
          exact p_jump (tj_X1_unpacked_131_52 hrc22 h) (And.intro rfl (And.intro rfl (And.intro rfl (And.intro rfl (And.intro rfl trivial)))))
        · have h := yb_ifp c7 h
          refine n_aload_n (i := 2) dX1_unpacked_44 rfl rfl ?_
          refine n_iload_n (i := 3) dX1_unpacked_45 rfl rfl ?_
          refine n_iload dX1_unpacked_46 rfl ?_
          obtain ⟨s8, hs8, h⟩ := yb_bind h
          refine p_iast hs8 (sh_131 _ _) dX1_unpacked_48 ?_
          refine n_iinc (vs' := [some (.int x0), some (.int x1), some (.ref (yb_ad G 131)), some (.int (x3 + (1 : Int32))), some (.int x4)]) dX1_unpacked_49 rfl (ii_1 _) (Nat.le_of_ble_eq_true rfl) rfl rfl ?_
          exact p_jump (tj_X1_unpacked_131_52 hrc22 h) (And.intro rfl (And.intro rfl (And.intro rfl (And.intro rfl (And.intro rfl trivial)))))
set_option maxHeartbeats 4000000 in
set_option maxRecDepth 20000 in
theorem tl_X1_unpacked_131_22 {G : yb_G} {X : List (FieldType × Nat)} {x0 : Int32} {x1 : Int32} {out : (Int32 × yb_S)} {x3 : Int32} {x4 : Int32} {s : yb_S} (h : l_X1_unpacked_131_22 x0 x1 yb_N x3 x4 s = some out) : Rn G RX1 cX1_unpacked 5 (Option.some .int) false (yb_rm 2) (yb_qi X out.2 out.1) 0 0 22 [some (.int x0), some (.int x1), some (.ref (yb_ad G 131)), some (.int x3), some (.int x4)] [] (yb_mk s X) := t_l_X1_unpacked_131_22 _ _ _ _ h
set_option maxHeartbeats 4000000 in
set_option maxRecDepth 20000 in
theorem t_X1_unpacked_131 {G : yb_G} {X : List (FieldType × Nat)} {a0 : Int32} {a1 : Int32} {s : yb_S} {out : (Int32 × yb_S)} (h : f_X1_unpacked_131 a0 a1 s = some out) : Ct G yX1_unpacked cX1_unpacked 5 (Option.some .int) (yb_rm 2) [.int a0, .int a1, .ref (yb_ad G 131)] (yb_mk s X) (yb_qi X out.2 out.1) := by
  refine Ct.of (own := RX1) (ini := false) (vs := [some (.int a0), some (.int a1), some (.ref (yb_ad G 131)), none, none]) ⟨rfl, by decide +kernel⟩ (fun h => by cases h) (Nat.le_of_ble_eq_true rfl) rfl ?_
  unfold f_X1_unpacked_131 at h
  refine n_iload_n (i := 0) dX1_unpacked_0 rfl rfl ?_
  refine n_iload_n (i := 1) dX1_unpacked_1 rfl rfl ?_
  refine n_iushr dX1_unpacked_2 ?_
  refine n_if_ne 15 dX1_unpacked_3 (by decide) (fun c1 => ?_) (fun c1 => ?_)
  · have h := yb_ifn c1 h
    refine n_iconst (0 : Int32) dX1_unpacked_15 ic_0 ?_
    cases h
    exact n_iret dX1_unpacked_16 rfl rfl (Nat.le_refl _) (Nat.le_refl _) ⟨rfl, rfl⟩
  · have h := yb_ifp c1 h
    refine n_iload_n (i := 0) dX1_unpacked_6 rfl rfl ?_
    obtain ⟨q2, hq2, h⟩ := yb_bind h
    refine p_callSi (As := [.int a0]) (t_J6_bitCount_0f7a4 hq2) cs_X1_74 rfl rfl (Nat.le_of_ble_eq_true rfl) dX1_unpacked_7 (yb_rok (Nat.le_of_ble_eq_true rfl) (by decide)) ⟨rfl, rfl⟩ ⟨Nat.le_refl _, Nat.le_refl _⟩ (fun k3 => ?_)
    refine n_aload_n (i := 2) dX1_unpacked_10 rfl rfl ?_
    refine p_alen (v := (6 : Int32)) (sh_131 _ _) (by decide) (by decide) dX1_unpacked_11 ?_
    refine n_icmp_le 17 dX1_unpacked_12 (by decide) (fun c4 => ?_) (fun c4 => ?_)
    · have h := yb_ifp c4 h
      refine n_iconst (0 : Int32) dX1_unpacked_17 ic_0 ?_
      refine n_istore_n (i := 3) (vs' := [some (.int a0), some (.int a1), some (.ref (yb_ad G 131)), some (.int (0 : Int32)), none]) dX1_unpacked_18 rfl (Nat.le_of_ble_eq_true rfl) rfl rfl ?_
      refine n_iconst (0 : Int32) dX1_unpacked_19 ic_0 ?_
      refine n_istore (i := 4) (vs' := [some (.int a0), some (.int a1), some (.ref (yb_ad G 131)), some (.int (0 : Int32)), some (.int (0 : Int32))]) dX1_unpacked_20 (Nat.le_of_ble_eq_true rfl) rfl rfl ?_
      exact p_jump (tl_X1_unpacked_131_22 h) (And.intro rfl (And.intro rfl (And.intro rfl (And.intro rfl (And.intro rfl trivial)))))
    · have h := yb_ifn c4 h
      refine n_iconst (0 : Int32) dX1_unpacked_15 ic_0 ?_
      cases h
      exact n_iret dX1_unpacked_16 rfl rfl (Nat.le_refl _) (Nat.le_refl _) ⟨rfl, rfl⟩
