/-! WALKS: the machine follows the functions, piece 3 of 7 -/
set_option maxHeartbeats 4000000 in
set_option maxRecDepth 20000 in
theorem tj_X9_splitTokens_95 {G : yb_G} {X : List (FieldType × Nat)} {rc9 : (Int32 → Int32 → yb_S → Option yb_S)} {x1 : Int32} {x2 : Int32} {s : yb_S} {out : yb_S} (hrc9 : ∀ (x1' : Int32) (x2' : Int32) (s' : yb_S), rc9 x1' x2' s' = some out → Rn G RX9 cX9_splitTokens 4 none false (yb_rm 10) (yb_qv X out) 0 0 9 [some (.ref (yb_ad G 92)), some (.int x1'), some (.int x2'), none] [] (yb_mk s' X)) (h : j_X9_splitTokens_95 rc9 x1 x2 s = some out) : Rn G RX9 cX9_splitTokens 4 none false (yb_rm 10) (yb_qv X out) 0 0 95 [some (.ref (yb_ad G 92)), some (.int x1), some (.int x2), none] [] (yb_mk s X) := by
  unfold j_X9_splitTokens_95 at h
  refine n_iinc (vs' := [some (.ref (yb_ad G 92)), some (.int x1), some (.int (x2 + (1 : Int32))), none]) dX9_splitTokens_95 rfl (ii_1 _) (Nat.le_of_ble_eq_true rfl) rfl rfl ?_
  refine n_goto 9 dX9_splitTokens_98 (by decide) ?_
  exact p_jump (hrc9 x1 (x2 + (1 : Int32)) s h) (And.intro rfl (And.intro rfl (And.intro rfl trivial)))
set_option maxHeartbeats 4000000 in
set_option maxRecDepth 20000 in
theorem tj_X9_splitTokens_90 {G : yb_G} {X : List (FieldType × Nat)} {rc9 : (Int32 → Int32 → yb_S → Option yb_S)} {x1 : Int32} {x2 : Int32} {y0 : Int32} {s : yb_S} {out : yb_S} (hrc9 : ∀ (x1' : Int32) (x2' : Int32) (s' : yb_S), rc9 x1' x2' s' = some out → Rn G RX9 cX9_splitTokens 4 none false (yb_rm 10) (yb_qv X out) 0 0 9 [some (.ref (yb_ad G 92)), some (.int x1'), some (.int x2'), none] [] (yb_mk s' X)) (h : j_X9_splitTokens_90 rc9 x1 x2 y0 s = some out) : Rn G RX9 cX9_splitTokens 4 none false (yb_rm 10) (yb_qv X out) 0 0 90 [some (.ref (yb_ad G 92)), some (.int x1), some (.int x2), none] [.int y0, .ref (yb_ad G 92)] (yb_mk s X) := by
  unfold j_X9_splitTokens_90 at h
  refine n_iload_n (i := 2) dX9_splitTokens_90 rfl rfl ?_
  refine n_iconst (0 : Int32) dX9_splitTokens_91 ic_0 ?_
  obtain ⟨q18, hq18, h⟩ := yb_bind h
  refine p_callVv (As := [.int y0, .int x2, .int (0 : Int32)]) (t_X9_addToken hq18) cv_X9_72 (sh_92 _ _) rfl rfl (Nat.le_of_ble_eq_true rfl) dX9_splitTokens_92 (yb_rok (Nat.le_of_ble_eq_true rfl) (by decide)) ⟨rfl, rfl⟩ ⟨Nat.le_refl _, Nat.le_refl _⟩ (fun k19 => ?_)
  exact p_jump (tj_X9_splitTokens_95 hrc9 h) (And.intro rfl (And.intro rfl (And.intro rfl trivial)))
set_option maxHeartbeats 4000000 in
set_option maxRecDepth 20000 in
theorem t_l_X9_splitTokens_9 {G : yb_G} {X : List (FieldType × Nat)} {out : yb_S} : ∀ (k0 : Nat) (x1 : Int32) (x2 : Int32) (s : yb_S), l_X9_splitTokens_9 k0 x1 x2 s = some out → Rn G RX9 cX9_splitTokens 4 none false (yb_rm 10) (yb_qv X out) 0 0 9 [some (.ref (yb_ad G 92)), some (.int x1), some (.int x2), none] [] (yb_mk s X) := by
  intro k0
  induction k0 with
  | zero => intro x1 x2 s h; cases h
  | succ k0 ih =>
    intro x1 x2 s h
    have h : f_X9_splitTokens_9 (fun x1 x2 s => l_X9_splitTokens_9 k0 x1 x2 s) x1 x2 s = some out := h
    have hrc9 := ih
    unfold f_X9_splitTokens_9 at h
    refine n_iload_n (i := 2) dX9_splitTokens_9 rfl rfl ?_
    refine n_aload_n (i := 0) dX9_splitTokens_10 rfl rfl ?_
    refine p_geti fl_X9_33 (sh_92 _ _) rfl dX9_splitTokens_11 ?_
    refine n_icmp_ge 101 dX9_splitTokens_14 (by decide) (fun c2 => ?_) (fun c2 => ?_)
    · have h := yb_ifp c2 h
      refine n_aload_n (i := 0) dX9_splitTokens_101 rfl rfl ?_
      refine n_iconst (0 : Int32) dX9_splitTokens_102 ic_0 ?_
      refine n_aload_n (i := 0) dX9_splitTokens_103 rfl rfl ?_
      refine p_geti fl_X9_33 (sh_92 _ _) rfl dX9_splitTokens_104 ?_
      refine n_iconst (0 : Int32) dX9_splitTokens_107 ic_0 ?_
      obtain ⟨q3, hq3, h⟩ := yb_bind h
      refine p_callVv (As := [.int (0 : Int32), .int (s.1 92 0), .int (0 : Int32)]) (t_X9_addToken hq3) cv_X9_72 (sh_92 _ _) rfl rfl (Nat.le_of_ble_eq_true rfl) dX9_splitTokens_108 (yb_rok (Nat.le_of_ble_eq_true rfl) (by decide)) ⟨rfl, rfl⟩ ⟨Nat.le_refl _, Nat.le_refl _⟩ (fun k4 => ?_)
      cases h
      exact n_vret dX9_splitTokens_111 rfl (Nat.le_refl _) (Nat.le_refl _) ⟨rfl, rfl⟩
    · have h := yb_ifn c2 h
      refine n_aload_n (i := 0) dX9_splitTokens_17 rfl rfl ?_
      refine p_getr fl_X9_21 (sh_92 _ _) rfl (rR_92_6 _ _) dX9_splitTokens_18 ?_
      refine n_iload_n (i := 2) dX9_splitTokens_21 rfl rfl ?_
      obtain ⟨v5, hv5, h⟩ := yb_bind h
      refine p_iald hv5 (sh_96 _ _) dX9_splitTokens_22 ?_
      refine n_istore_n (i := 3) (vs' := [some (.ref (yb_ad G 92)), some (.int x1), some (.int x2), some (.int v5)]) dX9_splitTokens_23 rfl (Nat.le_of_ble_eq_true rfl) rfl rfl ?_
      refine n_iload_n (i := 2) dX9_splitTokens_24 rfl rfl ?_
      refine n_iload_n (i := 1) dX9_splitTokens_25 rfl rfl ?_
      refine n_icmp_lt 95 dX9_splitTokens_26 (by decide) (fun c6 => ?_) (fun c6 => ?_)
      · have h := yb_ifp c6 h
        exact p_jump (tj_X9_splitTokens_95 hrc9 h) (And.intro rfl (And.intro rfl (And.intro rfl trivial)))
      · have h := yb_ifn c6 h
        refine n_iload_n (i := 3) dX9_splitTokens_29 rfl rfl ?_
        refine n_bipush (32 : Int32) dX9_splitTokens_30 bp_32 ?_
        refine n_icmp_eq 95 dX9_splitTokens_32 (by decide) (fun c7 => ?_) (fun c7 => ?_)
        · have h := yb_ifp c7 h
          exact p_jump (tj_X9_splitTokens_95 hrc9 h) (And.intro rfl (And.intro rfl (And.intro rfl trivial)))
        · have h := yb_ifn c7 h
          refine n_iload_n (i := 3) dX9_splitTokens_35 rfl rfl ?_
          refine n_bipush (10 : Int32) dX9_splitTokens_36 bp_10 ?_
          refine n_icmp_ne 44 dX9_splitTokens_38 (by decide) (fun c8 => ?_) (fun c8 => ?_)
          · have h := yb_ifn c8 h
            refine n_iload_n (i := 3) dX9_splitTokens_44 rfl rfl ?_
            obtain ⟨q9, hq9, h⟩ := yb_bind h
            refine p_callSi (As := [.int v5]) (t_X9_isLetter hq9) cs_X9_55 rfl rfl (Nat.le_of_ble_eq_true rfl) dX9_splitTokens_45 (yb_rok (Nat.le_of_ble_eq_true rfl) (by decide)) ⟨rfl, rfl⟩ ⟨Nat.le_refl _, Nat.le_refl _⟩ (fun k10 => ?_)
            refine n_if_eq 60 dX9_splitTokens_48 (by decide) (fun c11 => ?_) (fun c11 => ?_)
            · have h := yb_ifp c11 h
              refine n_iload_n (i := 3) dX9_splitTokens_60 rfl rfl ?_
              obtain ⟨q12, hq12, h⟩ := yb_bind h
              refine p_callSi (As := [.int v5]) (t_X9_isDigit hq12) cs_X9_63 rfl rfl (Nat.le_of_ble_eq_true rfl) dX9_splitTokens_61 (yb_rok (Nat.le_of_ble_eq_true rfl) (by decide)) ⟨rfl, rfl⟩ ⟨Nat.le_refl _, Nat.le_refl _⟩ (fun k13 => ?_)
              refine n_if_eq 76 dX9_splitTokens_64 (by decide) (fun c14 => ?_) (fun c14 => ?_)
              · have h := yb_ifp c14 h
                refine n_aload_n (i := 0) dX9_splitTokens_76 rfl rfl ?_
                refine n_iload_n (i := 3) dX9_splitTokens_77 rfl rfl ?_
                obtain ⟨q15, hq15, h⟩ := yb_bind h
                refine p_callSi (As := [.int v5]) (t_X9_isSign hq15) cs_X9_69 rfl rfl (Nat.le_of_ble_eq_true rfl) dX9_splitTokens_78 (yb_rok (Nat.le_of_ble_eq_true rfl) (by decide)) ⟨rfl, rfl⟩ ⟨Nat.le_refl _, Nat.le_refl _⟩ (fun k16 => ?_)
                refine n_if_eq 88 dX9_splitTokens_81 (by decide) (fun c17 => ?_) (fun c17 => ?_)
                · have h := yb_ifp c17 h
                  refine n_bipush (7 : Int32) dX9_splitTokens_88 bp_7 ?_
                  exact p_jump (tj_X9_splitTokens_90 hrc9 h) (And.intro rfl (And.intro rfl (And.intro rfl trivial)))
                · have h := yb_ifn c17 h
                  refine n_iload_n (i := 3) dX9_splitTokens_84 rfl rfl ?_
                  refine n_goto 90 dX9_splitTokens_85 (by decide) ?_
                  exact p_jump (tj_X9_splitTokens_90 hrc9 h) (And.intro rfl (And.intro rfl (And.intro rfl trivial)))
              · have h := yb_ifn c14 h
                refine n_aload_n (i := 0) dX9_splitTokens_67 rfl rfl ?_
                refine n_iload_n (i := 2) dX9_splitTokens_68 rfl rfl ?_
                obtain ⟨q20, hq20, h⟩ := yb_bind h
                refine p_callVi (As := [.int x2]) (t_X9_splitNumber hq20) cv_X9_66 (sh_92 _ _) rfl rfl (Nat.le_of_ble_eq_true rfl) dX9_splitTokens_69 (yb_rok (Nat.le_of_ble_eq_true rfl) (by decide)) ⟨rfl, rfl⟩ ⟨Nat.le_refl _, Nat.le_refl _⟩ (fun k21 => ?_)
                refine n_istore_n (i := 1) (vs' := [some (.ref (yb_ad G 92)), some (.int q20.1), some (.int x2), some (.int v5)]) dX9_splitTokens_72 rfl (Nat.le_of_ble_eq_true rfl) rfl rfl ?_
                refine n_goto 95 dX9_splitTokens_73 (by decide) ?_
                exact p_jump (tj_X9_splitTokens_95 hrc9 h) (And.intro rfl (And.intro rfl (And.intro rfl trivial)))
            · have h := yb_ifn c11 h
              refine n_aload_n (i := 0) dX9_splitTokens_51 rfl rfl ?_
              refine n_iload_n (i := 2) dX9_splitTokens_52 rfl rfl ?_
              obtain ⟨q22, hq22, h⟩ := yb_bind h
              refine p_callVi (As := [.int x2]) (t_X9_splitWord hq22) cv_X9_59 (sh_92 _ _) rfl rfl (Nat.le_of_ble_eq_true rfl) dX9_splitTokens_53 (yb_rok (Nat.le_of_ble_eq_true rfl) (by decide)) ⟨rfl, rfl⟩ ⟨Nat.le_refl _, Nat.le_refl _⟩ (fun k23 => ?_)
              refine n_istore_n (i := 1) (vs' := [some (.ref (yb_ad G 92)), some (.int q22.1), some (.int x2), some (.int v5)]) dX9_splitTokens_56 rfl (Nat.le_of_ble_eq_true rfl) rfl rfl ?_
              refine n_goto 95 dX9_splitTokens_57 (by decide) ?_
              exact p_jump (tj_X9_splitTokens_95 hrc9 h) (And.intro rfl (And.intro rfl (And.intro rfl trivial)))
          · have h := yb_ifp c8 h
            refine n_goto 95 dX9_splitTokens_41 (by decide) ?_
            exact p_jump (tj_X9_splitTokens_95 hrc9 h) (And.intro rfl (And.intro rfl (And.intro rfl trivial)))
set_option maxHeartbeats 4000000 in
set_option maxRecDepth 20000 in
theorem tl_X9_splitTokens_9 {G : yb_G} {X : List (FieldType × Nat)} {out : yb_S} {x1 : Int32} {x2 : Int32} {s : yb_S} (h : l_X9_splitTokens_9 yb_N x1 x2 s = some out) : Rn G RX9 cX9_splitTokens 4 none false (yb_rm 10) (yb_qv X out) 0 0 9 [some (.ref (yb_ad G 92)), some (.int x1), some (.int x2), none] [] (yb_mk s X) := t_l_X9_splitTokens_9 _ _ _ _ h
set_option maxHeartbeats 4000000 in
set_option maxRecDepth 20000 in
theorem t_X9_splitTokens {G : yb_G} {X : List (FieldType × Nat)} {s : yb_S} {out : yb_S} (h : f_X9_splitTokens s = some out) : Ct G yX9_splitTokens cX9_splitTokens 4 none (yb_rm 10) [.ref (yb_ad G 92)] (yb_mk s X) (yb_qv X out) := by
  refine Ct.of (own := RX9) (ini := false) (vs := [some (.ref (yb_ad G 92)), none, none, none]) ⟨rfl, by decide +kernel⟩ (fun h => by cases h) (Nat.le_of_ble_eq_true rfl) rfl ?_
  unfold f_X9_splitTokens at h
  refine n_aload_n (i := 0) dX9_splitTokens_0 rfl rfl ?_
  refine n_iconst (0 : Int32) dX9_splitTokens_1 ic_0 ?_
  obtain ⟨s1, hs1, h⟩ := yb_bind h
  refine p_puti hs1 fp_X9_52 (sh_92 _ _) rfl rfl rfl dX9_splitTokens_2 ?_
  refine n_iconst (0 : Int32) dX9_splitTokens_5 ic_0 ?_
  refine n_istore_n (i := 1) (vs' := [some (.ref (yb_ad G 92)), some (.int (0 : Int32)), none, none]) dX9_splitTokens_6 rfl (Nat.le_of_ble_eq_true rfl) rfl rfl ?_
  refine n_iconst (0 : Int32) dX9_splitTokens_7 ic_0 ?_
  refine n_istore_n (i := 2) (vs' := [some (.ref (yb_ad G 92)), some (.int (0 : Int32)), some (.int (0 : Int32)), none]) dX9_splitTokens_8 rfl (Nat.le_of_ble_eq_true rfl) rfl rfl ?_
  exact p_jump (tl_X9_splitTokens_9 h) (And.intro rfl (And.intro rfl (And.intro rfl trivial)))
set_option maxHeartbeats 4000000 in
set_option maxRecDepth 20000 in
theorem t_X9_isNext {G : yb_G} {X : List (FieldType × Nat)} {a1 : Int32} {s : yb_S} {out : Int32} (h : f_X9_isNext a1 s = some out) : Ct G yX9_isNext cX9_isNext 2 (Option.some .boolean) (yb_rm 1) [.ref (yb_ad G 92), .int a1] (yb_mk s X) (yb_qi X s out) := by
  refine Ct.of (own := RX9) (ini := false) (vs := [some (.ref (yb_ad G 92)), some (.int a1)]) ⟨rfl, by decide +kernel⟩ (fun h => by cases h) (Nat.le_of_ble_eq_true rfl) rfl ?_
  unfold f_X9_isNext at h
  refine n_aload_n (i := 0) dX9_isNext_0 rfl rfl ?_
  refine p_geti fl_X9_40 (sh_92 _ _) rfl dX9_isNext_1 ?_
  refine n_iconst (-1 : Int32) dX9_isNext_4 ic_m1 ?_
  refine n_icmp_ne 36 dX9_isNext_5 (by decide) (fun c1 => ?_) (fun c1 => ?_)
  · have h := yb_ifn c1 h
    refine n_iconst (0 : Int32) dX9_isNext_36 ic_0 ?_
    cases h
    exact n_iret dX9_isNext_37 rfl (by decide) (Nat.le_refl _) (Nat.le_refl _) ⟨rfl, rfl⟩
  · have h := yb_ifp c1 h
    refine n_aload_n (i := 0) dX9_isNext_8 rfl rfl ?_
    refine p_geti fl_X9_46 (sh_92 _ _) rfl dX9_isNext_9 ?_
    refine n_aload_n (i := 0) dX9_isNext_12 rfl rfl ?_
    refine p_geti fl_X9_52 (sh_92 _ _) rfl dX9_isNext_13 ?_
    refine n_icmp_ge 36 dX9_isNext_16 (by decide) (fun c2 => ?_) (fun c2 => ?_)
    · have h := yb_ifp c2 h
      refine n_iconst (0 : Int32) dX9_isNext_36 ic_0 ?_
      cases h
      exact n_iret dX9_isNext_37 rfl (by decide) (Nat.le_refl _) (Nat.le_refl _) ⟨rfl, rfl⟩
    · have h := yb_ifn c2 h
      refine n_aload_n (i := 0) dX9_isNext_19 rfl rfl ?_
      refine p_getr fl_X9_24 (sh_92 _ _) rfl (rR_92_7 _ _) dX9_isNext_20 ?_
      refine n_aload_n (i := 0) dX9_isNext_23 rfl rfl ?_
      refine p_geti fl_X9_46 (sh_92 _ _) rfl dX9_isNext_24 ?_
      obtain ⟨v3, hv3, h⟩ := yb_bind h
      refine p_iald hv3 (sh_97 _ _) dX9_isNext_27 ?_
      refine n_iload_n (i := 1) dX9_isNext_28 rfl rfl ?_
      refine n_icmp_ne 36 dX9_isNext_29 (by decide) (fun c4 => ?_) (fun c4 => ?_)
      · have h := yb_ifn c4 h
        refine n_iconst (0 : Int32) dX9_isNext_36 ic_0 ?_
        cases h
        exact n_iret dX9_isNext_37 rfl (by decide) (Nat.le_refl _) (Nat.le_refl _) ⟨rfl, rfl⟩
      · have h := yb_ifp c4 h
        refine n_iconst (1 : Int32) dX9_isNext_32 ic_1 ?_
        refine n_goto 37 dX9_isNext_33 (by decide) ?_
        cases h
        exact n_iret dX9_isNext_37 rfl (by decide) (Nat.le_refl _) (Nat.le_refl _) ⟨rfl, rfl⟩
set_option maxHeartbeats 4000000 in
set_option maxRecDepth 20000 in
theorem t_X9_put {G : yb_G} {X : List (FieldType × Nat)} {a1 : Int32} {s : yb_S} {out : yb_S} (h : f_X9_put a1 s = some out) : Ct G yX9_put cX9_put 2 none (yb_rm 1) [.ref (yb_ad G 92), .int a1] (yb_mk s X) (yb_qv X out) := by
  refine Ct.of (own := RX9) (ini := false) (vs := [some (.ref (yb_ad G 92)), some (.int a1)]) ⟨rfl, by decide +kernel⟩ (fun h => by cases h) (Nat.le_of_ble_eq_true rfl) rfl ?_
  unfold f_X9_put at h
  refine n_aload_n (i := 0) dX9_put_0 rfl rfl ?_
  refine p_geti fl_X9_43 (sh_92 _ _) rfl dX9_put_1 ?_
  refine n_sipush (500 : Int32) dX9_put_4 sp_500 ?_
  refine n_icmp_ge 30 dX9_put_7 (by decide) (fun c1 => ?_) (fun c1 => ?_)
  · have h := yb_ifp c1 h
    cases h
    exact n_vret dX9_put_30 rfl (Nat.le_refl _) (Nat.le_refl _) ⟨rfl, rfl⟩
  · have h := yb_ifn c1 h
    refine n_aload_n (i := 0) dX9_put_10 rfl rfl ?_
    refine p_getr fl_X9_9 (sh_92 _ _) rfl (rR_92_3 _ _) dX9_put_11 ?_
    refine n_aload_n (i := 0) dX9_put_14 rfl rfl ?_
    refine p_geti fl_X9_43 (sh_92 _ _) rfl dX9_put_15 ?_
    refine n_iload_n (i := 1) dX9_put_18 rfl rfl ?_
    obtain ⟨s2, hs2, h⟩ := yb_bind h
    refine p_iast hs2 (sh_93 _ _) dX9_put_19 ?_
    refine n_aload_n (i := 0) dX9_put_20 rfl rfl ?_
    refine n_dup dX9_put_21 rfl ?_
    refine p_geti fl_X9_43 (sh_92 _ _) rfl dX9_put_22 ?_
    refine n_iconst (1 : Int32) dX9_put_25 ic_1 ?_
    refine n_iadd dX9_put_26 ?_
    obtain ⟨s3, hs3, h⟩ := yb_bind h
    refine p_puti hs3 fp_X9_43 (sh_92 _ _) rfl rfl rfl dX9_put_27 ?_
    cases h
    exact n_vret dX9_put_30 rfl (Nat.le_refl _) (Nat.le_refl _) ⟨rfl, rfl⟩
set_option maxHeartbeats 4000000 in
set_option maxRecDepth 20000 in
theorem t_X9_fail {G : yb_G} {X : List (FieldType × Nat)} {s : yb_S} {out : yb_S} (h : f_X9_fail s = some out) : Ct G yX9_fail cX9_fail 1 none (yb_rm 1) [.ref (yb_ad G 92)] (yb_mk s X) (yb_qv X out) := by
  refine Ct.of (own := RX9) (ini := false) (vs := [some (.ref (yb_ad G 92))]) ⟨rfl, by decide +kernel⟩ (fun h => by cases h) (Nat.le_of_ble_eq_true rfl) rfl ?_
  unfold f_X9_fail at h
  refine n_aload_n (i := 0) dX9_fail_0 rfl rfl ?_
  refine p_geti fl_X9_40 (sh_92 _ _) rfl dX9_fail_1 ?_
  refine n_iconst (-1 : Int32) dX9_fail_4 ic_m1 ?_
  refine n_icmp_ne 32 dX9_fail_5 (by decide) (fun c1 => ?_) (fun c1 => ?_)
  · have h := yb_ifn c1 h
    cases h
    exact n_vret dX9_fail_32 rfl (Nat.le_refl _) (Nat.le_refl _) ⟨rfl, rfl⟩
  · have h := yb_ifp c1 h
    refine n_aload_n (i := 0) dX9_fail_8 rfl rfl ?_
    refine p_geti fl_X9_46 (sh_92 _ _) rfl dX9_fail_9 ?_
    refine n_aload_n (i := 0) dX9_fail_12 rfl rfl ?_
    refine p_geti fl_X9_52 (sh_92 _ _) rfl dX9_fail_13 ?_
    refine n_icmp_ge 32 dX9_fail_16 (by decide) (fun c2 => ?_) (fun c2 => ?_)
    · have h := yb_ifp c2 h
      cases h
      exact n_vret dX9_fail_32 rfl (Nat.le_refl _) (Nat.le_refl _) ⟨rfl, rfl⟩
    · have h := yb_ifn c2 h
      refine n_aload_n (i := 0) dX9_fail_19 rfl rfl ?_
      refine n_aload_n (i := 0) dX9_fail_20 rfl rfl ?_
      refine p_getr fl_X9_30 (sh_92 _ _) rfl (rR_92_9 _ _) dX9_fail_21 ?_
      refine n_aload_n (i := 0) dX9_fail_24 rfl rfl ?_
      refine p_geti fl_X9_46 (sh_92 _ _) rfl dX9_fail_25 ?_
      obtain ⟨v3, hv3, h⟩ := yb_bind h
      refine p_iald hv3 (sh_99 _ _) dX9_fail_28 ?_
      obtain ⟨s4, hs4, h⟩ := yb_bind h
      refine p_puti hs4 fp_X9_40 (sh_92 _ _) rfl rfl rfl dX9_fail_29 ?_
      cases h
      exact n_vret dX9_fail_32 rfl (Nat.le_refl _) (Nat.le_refl _) ⟨rfl, rfl⟩
set_option maxHeartbeats 4000000 in
set_option maxRecDepth 20000 in
theorem t_X9_pass {G : yb_G} {X : List (FieldType × Nat)} {a1 : Int32} {s : yb_S} {out : yb_S} (h : f_X9_pass a1 s = some out) : Ct G yX9_pass cX9_pass 2 none (yb_rm 2) [.ref (yb_ad G 92), .int a1] (yb_mk s X) (yb_qv X out) := by
  refine Ct.of (own := RX9) (ini := false) (vs := [some (.ref (yb_ad G 92)), some (.int a1)]) ⟨rfl, by decide +kernel⟩ (fun h => by cases h) (Nat.le_of_ble_eq_true rfl) rfl ?_
  unfold f_X9_pass at h
  refine n_aload_n (i := 0) dX9_pass_0 rfl rfl ?_
  refine n_iload_n (i := 1) dX9_pass_1 rfl rfl ?_
  obtain ⟨q1, hq1, h⟩ := yb_bind h
  refine p_callVi (As := [.int a1]) (t_X9_isNext hq1) cv_X9_94 (sh_92 _ _) rfl rfl (Nat.le_of_ble_eq_true rfl) dX9_pass_2 (yb_rok (Nat.le_of_ble_eq_true rfl) (by decide)) ⟨rfl, rfl⟩ ⟨Nat.le_refl _, Nat.le_refl _⟩ (fun k2 => ?_)
  refine n_if_eq 21 dX9_pass_5 (by decide) (fun c3 => ?_) (fun c3 => ?_)
  · have h := yb_ifp c3 h
    refine n_aload_n (i := 0) dX9_pass_21 rfl rfl ?_
    obtain ⟨q4, hq4, h⟩ := yb_bind h
    refine p_callVv (As := []) (t_X9_fail hq4) cv_X9_103 (sh_92 _ _) rfl rfl (Nat.le_of_ble_eq_true rfl) dX9_pass_22 (yb_rok (Nat.le_of_ble_eq_true rfl) (by decide)) ⟨rfl, rfl⟩ ⟨Nat.le_refl _, Nat.le_refl _⟩ (fun k5 => ?_)
    cases h
    exact n_vret dX9_pass_25 rfl (Nat.le_refl _) (Nat.le_refl _) ⟨rfl, rfl⟩
  · have h := yb_ifn c3 h
    refine n_aload_n (i := 0) dX9_pass_8 rfl rfl ?_
    refine n_dup dX9_pass_9 rfl ?_
    refine p_geti fl_X9_46 (sh_92 _ _) rfl dX9_pass_10 ?_
    refine n_iconst (1 : Int32) dX9_pass_13 ic_1 ?_
    refine n_iadd dX9_pass_14 ?_
    obtain ⟨s6, hs6, h⟩ := yb_bind h
    refine p_puti hs6 fp_X9_46 (sh_92 _ _) rfl rfl rfl dX9_pass_15 ?_
    refine n_goto 25 dX9_pass_18 (by decide) ?_
    cases h
    exact n_vret dX9_pass_25 rfl (Nat.le_refl _) (Nat.le_refl _) ⟨rfl, rfl⟩
set_option maxHeartbeats 4000000 in
set_option maxRecDepth 20000 in
theorem tj_X9_readFactor_113 {G : yb_G} {X : List (FieldType × Nat)} {r_X9_readFactor : (Int32 → yb_S → Option yb_S)} {r_X9_readProduct : (Int32 → yb_S → Option yb_S)} {r_X9_readSum : (Int32 → yb_S → Option yb_S)} {n : Nat} {s : yb_S} {out : yb_S} (H_X9_readFactor : ∀ (a1 : Int32) (s : yb_S) (out : yb_S), r_X9_readFactor a1 s = some out → Ct G yX9_readFactor cX9_readFactor 2 none (yb_rm (3 + n)) [.ref (yb_ad G 92), .int a1] (yb_mk s X) (yb_qv X out)) (H_X9_readProduct : ∀ (a1 : Int32) (s : yb_S) (out : yb_S), r_X9_readProduct a1 s = some out → Ct G yX9_readProduct cX9_readProduct 4 none (yb_rm (3 + n)) [.ref (yb_ad G 92), .int a1] (yb_mk s X) (yb_qv X out)) (H_X9_readSum : ∀ (a1 : Int32) (s : yb_S) (out : yb_S), r_X9_readSum a1 s = some out → Ct G yX9_readSum cX9_readSum 4 none (yb_rm (3 + n)) [.ref (yb_ad G 92), .int a1] (yb_mk s X) (yb_qv X out)) (h : j_X9_readFactor_113 r_X9_readFactor r_X9_readProduct r_X9_readSum s = some out) : Rn G RX9 cX9_readFactor 2 none false (yb_rm (4 + n)) (yb_qv X out) 0 0 113 [some (.ref (yb_ad G 92)), none] [] (yb_mk s X) := by
  unfold j_X9_readFactor_113 at h
  refine n_aload_n (i := 0) dX9_readFactor_113 rfl rfl ?_
  obtain ⟨q10, hq10, h⟩ := yb_bind h
  refine p_callVv (As := []) (t_X9_fail hq10) cv_X9_103 (sh_92 _ _) rfl rfl (Nat.le_of_ble_eq_true rfl) dX9_readFactor_114 (yb_rok (by omega) (by decide)) ⟨rfl, rfl⟩ ⟨Nat.le_refl _, Nat.le_refl _⟩ (fun k11 => ?_)
  cases h
  exact n_vret dX9_readFactor_117 rfl (Nat.le_refl _) (Nat.le_refl _) ⟨rfl, rfl⟩
set_option maxHeartbeats 4000000 in
set_option maxRecDepth 20000 in
theorem t_X9_readFactor {G : yb_G} {X : List (FieldType × Nat)} {r_X9_readFactor : (Int32 → yb_S → Option yb_S)} {r_X9_readProduct : (Int32 → yb_S → Option yb_S)} {r_X9_readSum : (Int32 → yb_S → Option yb_S)} {n : Nat} {a1 : Int32} {s : yb_S} {out : yb_S} (H_X9_readFactor : ∀ (a1 : Int32) (s : yb_S) (out : yb_S), r_X9_readFactor a1 s = some out → Ct G yX9_readFactor cX9_readFactor 2 none (yb_rm (3 + n)) [.ref (yb_ad G 92), .int a1] (yb_mk s X) (yb_qv X out)) (H_X9_readProduct : ∀ (a1 : Int32) (s : yb_S) (out : yb_S), r_X9_readProduct a1 s = some out → Ct G yX9_readProduct cX9_readProduct 4 none (yb_rm (3 + n)) [.ref (yb_ad G 92), .int a1] (yb_mk s X) (yb_qv X out)) (H_X9_readSum : ∀ (a1 : Int32) (s : yb_S) (out : yb_S), r_X9_readSum a1 s = some out → Ct G yX9_readSum cX9_readSum 4 none (yb_rm (3 + n)) [.ref (yb_ad G 92), .int a1] (yb_mk s X) (yb_qv X out)) (h : f_X9_readFactor r_X9_readFactor r_X9_readProduct r_X9_readSum a1 s = some out) : Ct G yX9_readFactor cX9_readFactor 2 none (yb_rm (4 + n)) [.ref (yb_ad G 92), .int a1] (yb_mk s X) (yb_qv X out) := by
  refine Ct.of (own := RX9) (ini := false) (vs := [some (.ref (yb_ad G 92)), some (.int a1)]) ⟨rfl, by decide +kernel⟩ (fun h => by cases h) (Nat.le_of_ble_eq_true rfl) rfl ?_
  unfold f_X9_readFactor at h
  refine n_aload_n (i := 0) dX9_readFactor_0 rfl rfl ?_
  refine n_iconst (1 : Int32) dX9_readFactor_1 ic_1 ?_
  obtain ⟨q1, hq1, h⟩ := yb_bind h
  refine p_callVi (As := [.int (1 : Int32)]) (t_X9_isNext hq1) cv_X9_94 (sh_92 _ _) rfl rfl (Nat.le_of_ble_eq_true rfl) dX9_readFactor_2 (yb_rok (by omega) (by decide)) ⟨rfl, rfl⟩ ⟨Nat.le_refl _, Nat.le_refl _⟩ (fun k2 => ?_)
  refine n_if_eq 38 dX9_readFactor_5 (by decide) (fun c3 => ?_) (fun c3 => ?_)
  · have h := yb_ifp c3 h
    refine n_aload_n (i := 0) dX9_readFactor_38 rfl rfl ?_
    refine n_iconst (2 : Int32) dX9_readFactor_39 ic_2 ?_
    obtain ⟨q4, hq4, h⟩ := yb_bind h
    refine p_callVi (As := [.int (2 : Int32)]) (t_X9_isNext hq4) cv_X9_94 (sh_92 _ _) rfl rfl (Nat.le_of_ble_eq_true rfl) dX9_readFactor_40 (yb_rok (by omega) (by decide)) ⟨rfl, rfl⟩ ⟨Nat.le_refl _, Nat.le_refl _⟩ (fun k5 => ?_)
    refine n_if_eq 72 dX9_readFactor_43 (by decide) (fun c6 => ?_) (fun c6 => ?_)
    · have h := yb_ifp c6 h
      refine n_aload_n (i := 0) dX9_readFactor_72 rfl rfl ?_
      refine n_bipush (40 : Int32) dX9_readFactor_73 bp_40 ?_
      obtain ⟨q7, hq7, h⟩ := yb_bind h
      refine p_callVi (As := [.int (40 : Int32)]) (t_X9_isNext hq7) cv_X9_94 (sh_92 _ _) rfl rfl (Nat.le_of_ble_eq_true rfl) dX9_readFactor_75 (yb_rok (by omega) (by decide)) ⟨rfl, rfl⟩ ⟨Nat.le_refl _, Nat.le_refl _⟩ (fun k8 => ?_)
      refine n_if_eq 113 dX9_readFactor_78 (by decide) (fun c9 => ?_) (fun c9 => ?_)
      · have h := yb_ifp c9 h
        exact p_jump (tj_X9_readFactor_113 H_X9_readFactor H_X9_readProduct H_X9_readSum h) (And.intro rfl trivial)
      · have h := yb_ifn c9 h
        refine n_iload_n (i := 1) dX9_readFactor_81 rfl rfl ?_
        refine n_bipush (8 : Int32) dX9_readFactor_82 bp_8 ?_
        refine n_icmp_ge 113 dX9_readFactor_84 (by decide) (fun c12 => ?_) (fun c12 => ?_)
        · have h := yb_ifp c12 h
          exact p_jump (tj_X9_readFactor_113 H_X9_readFactor H_X9_readProduct H_X9_readSum h) (And.intro rfl trivial)
        · have h := yb_ifn c12 h
          refine n_aload_n (i := 0) dX9_readFactor_87 rfl rfl ?_
          refine n_dup dX9_readFactor_88 rfl ?_
          refine p_geti fl_X9_46 (sh_92 _ _) rfl dX9_readFactor_89 ?_
          refine n_iconst (1 : Int32) dX9_readFactor_92 ic_1 ?_
          refine n_iadd dX9_readFactor_93 ?_
          obtain ⟨s13, hs13, h⟩ := yb_bind h
          refine p_puti hs13 fp_X9_46 (sh_92 _ _) rfl rfl rfl dX9_readFactor_94 ?_
          refine n_aload_n (i := 0) dX9_readFactor_97 rfl rfl ?_
          refine n_iload_n (i := 1) dX9_readFactor_98 rfl rfl ?_
          refine n_iconst (1 : Int32) dX9_readFactor_99 ic_1 ?_
          refine n_iadd dX9_readFactor_100 ?_
          obtain ⟨q14, hq14, h⟩ := yb_bind h
          refine p_callVv (As := [.int (a1 + (1 : Int32))]) (H_X9_readSum (a1 + (1 : Int32)) _ _ hq14) cv_X9_85 (sh_92 _ _) rfl rfl (Nat.le_of_ble_eq_true rfl) dX9_readFactor_101 (yb_rok (by omega) (by decide)) ⟨rfl, rfl⟩ ⟨Nat.le_refl _, Nat.le_refl _⟩ (fun k15 => ?_)
          refine n_aload_n (i := 0) dX9_readFactor_104 rfl rfl ?_
          refine n_bipush (41 : Int32) dX9_readFactor_105 bp_41 ?_
          obtain ⟨q16, hq16, h⟩ := yb_bind h
          refine p_callVv (As := [.int (41 : Int32)]) (t_X9_pass hq16) cv_X9_88 (sh_92 _ _) rfl rfl (Nat.le_of_ble_eq_true rfl) dX9_readFactor_107 (yb_rok (by omega) (by decide)) ⟨rfl, rfl⟩ ⟨Nat.le_refl _, Nat.le_refl _⟩ (fun k17 => ?_)
          refine n_goto 117 dX9_readFactor_110 (by decide) ?_
          cases h
          exact n_vret dX9_readFactor_117 rfl (Nat.le_refl _) (Nat.le_refl _) ⟨rfl, rfl⟩
    · have h := yb_ifn c6 h
      refine n_aload_n (i := 0) dX9_readFactor_46 rfl rfl ?_
      refine n_aload_n (i := 0) dX9_readFactor_47 rfl rfl ?_
      refine p_getr fl_X9_27 (sh_92 _ _) rfl (rR_92_8 _ _) dX9_readFactor_48 ?_
      refine n_aload_n (i := 0) dX9_readFactor_51 rfl rfl ?_
      refine p_geti fl_X9_46 (sh_92 _ _) rfl dX9_readFactor_52 ?_
      obtain ⟨v18, hv18, h⟩ := yb_bind h
      refine p_iald hv18 (sh_98 _ _) dX9_readFactor_55 ?_
      obtain ⟨q19, hq19, h⟩ := yb_bind h
      refine p_callVv (As := [.int v18]) (t_X9_put hq19) cv_X9_97 (sh_92 _ _) rfl rfl (Nat.le_of_ble_eq_true rfl) dX9_readFactor_56 (yb_rok (by omega) (by decide)) ⟨rfl, rfl⟩ ⟨Nat.le_refl _, Nat.le_refl _⟩ (fun k20 => ?_)
      refine n_aload_n (i := 0) dX9_readFactor_59 rfl rfl ?_
      refine n_dup dX9_readFactor_60 rfl ?_
      refine p_geti fl_X9_46 (sh_92 _ _) rfl dX9_readFactor_61 ?_
      refine n_iconst (1 : Int32) dX9_readFactor_64 ic_1 ?_
      refine n_iadd dX9_readFactor_65 ?_
      obtain ⟨s21, hs21, h⟩ := yb_bind h
      refine p_puti hs21 fp_X9_46 (sh_92 _ _) rfl rfl rfl dX9_readFactor_66 ?_
      refine n_goto 117 dX9_readFactor_69 (by decide) ?_
      cases h
      exact n_vret dX9_readFactor_117 rfl (Nat.le_refl _) (Nat.le_refl _) ⟨rfl, rfl⟩
  · have h := yb_ifn c3 h
    refine n_aload_n (i := 0) dX9_readFactor_8 rfl rfl ?_
    refine n_sipush (1000 : Int32) dX9_readFactor_9 sp_1000 ?_
    refine n_aload_n (i := 0) dX9_readFactor_12 rfl rfl ?_
    refine p_getr fl_X9_27 (sh_92 _ _) rfl (rR_92_8 _ _) dX9_readFactor_13 ?_
    refine n_aload_n (i := 0) dX9_readFactor_16 rfl rfl ?_
    refine p_geti fl_X9_46 (sh_92 _ _) rfl dX9_readFactor_17 ?_
    obtain ⟨v22, hv22, h⟩ := yb_bind h
    refine p_iald hv22 (sh_98 _ _) dX9_readFactor_20 ?_
    refine n_iadd dX9_readFactor_21 ?_
    obtain ⟨q23, hq23, h⟩ := yb_bind h
    refine p_callVv (As := [.int ((1000 : Int32) + v22)]) (t_X9_put hq23) cv_X9_97 (sh_92 _ _) rfl rfl (Nat.le_of_ble_eq_true rfl) dX9_readFactor_22 (yb_rok (by omega) (by decide)) ⟨rfl, rfl⟩ ⟨Nat.le_refl _, Nat.le_refl _⟩ (fun k24 => ?_)
    refine n_aload_n (i := 0) dX9_readFactor_25 rfl rfl ?_
    refine n_dup dX9_readFactor_26 rfl ?_
    refine p_geti fl_X9_46 (sh_92 _ _) rfl dX9_readFactor_27 ?_
    refine n_iconst (1 : Int32) dX9_readFactor_30 ic_1 ?_
    refine n_iadd dX9_readFactor_31 ?_
    obtain ⟨s25, hs25, h⟩ := yb_bind h
    refine p_puti hs25 fp_X9_46 (sh_92 _ _) rfl rfl rfl dX9_readFactor_32 ?_
    refine n_goto 117 dX9_readFactor_35 (by decide) ?_
    cases h
    exact n_vret dX9_readFactor_117 rfl (Nat.le_refl _) (Nat.le_refl _) ⟨rfl, rfl⟩
set_option maxHeartbeats 4000000 in
set_option maxRecDepth 20000 in
theorem tj_X9_readProduct_32 {G : yb_G} {X : List (FieldType × Nat)} {r_X9_readFactor : (Int32 → yb_S → Option yb_S)} {r_X9_readProduct : (Int32 → yb_S → Option yb_S)} {r_X9_readSum : (Int32 → yb_S → Option yb_S)} {n : Nat} {rc7 : (Int32 → yb_S → Option yb_S)} {x1 : Int32} {x2 : Int32} {s : yb_S} {out : yb_S} (H_X9_readFactor : ∀ (a1 : Int32) (s : yb_S) (out : yb_S), r_X9_readFactor a1 s = some out → Ct G yX9_readFactor cX9_readFactor 2 none (yb_rm (3 + n)) [.ref (yb_ad G 92), .int a1] (yb_mk s X) (yb_qv X out)) (H_X9_readProduct : ∀ (a1 : Int32) (s : yb_S) (out : yb_S), r_X9_readProduct a1 s = some out → Ct G yX9_readProduct cX9_readProduct 4 none (yb_rm (3 + n)) [.ref (yb_ad G 92), .int a1] (yb_mk s X) (yb_qv X out)) (H_X9_readSum : ∀ (a1 : Int32) (s : yb_S) (out : yb_S), r_X9_readSum a1 s = some out → Ct G yX9_readSum cX9_readSum 4 none (yb_rm (3 + n)) [.ref (yb_ad G 92), .int a1] (yb_mk s X) (yb_qv X out)) (hrc7 : ∀ (x2' : Int32) (s' : yb_S), rc7 x2' s' = some out → Rn G RX9 cX9_readProduct 4 none false (yb_rm (4 + n)) (yb_qv X out) 0 0 7 [some (.ref (yb_ad G 92)), some (.int x1), some (.int x2'), none] [] (yb_mk s' X)) (h : j_X9_readProduct_32 r_X9_readFactor r_X9_readProduct r_X9_readSum rc7 x1 x2 s = some out) : Rn G RX9 cX9_readProduct 4 none false (yb_rm (4 + n)) (yb_qv X out) 0 0 32 [some (.ref (yb_ad G 92)), some (.int x1), some (.int x2), none] [] (yb_mk s X) := by
  unfold j_X9_readProduct_32 at h
  refine n_aload_n (i := 0) dX9_readProduct_32 rfl rfl ?_
  refine p_getr fl_X9_24 (sh_92 _ _) rfl (rR_92_7 _ _) dX9_readProduct_33 ?_
  refine n_aload_n (i := 0) dX9_readProduct_36 rfl rfl ?_
  refine p_geti fl_X9_46 (sh_92 _ _) rfl dX9_readProduct_37 ?_
  obtain ⟨v7, hv7, h⟩ := yb_bind h
  refine p_iald hv7 (sh_97 _ _) dX9_readProduct_40 ?_
  refine n_istore_n (i := 3) (vs' := [some (.ref (yb_ad G 92)), some (.int x1), some (.int x2), some (.int v7)]) dX9_readProduct_41 rfl (Nat.le_of_ble_eq_true rfl) rfl rfl ?_
  refine n_aload_n (i := 0) dX9_readProduct_42 rfl rfl ?_
  refine n_dup dX9_readProduct_43 rfl ?_
  refine p_geti fl_X9_46 (sh_92 _ _) rfl dX9_readProduct_44 ?_
  refine n_iconst (1 : Int32) dX9_readProduct_47 ic_1 ?_
  refine n_iadd dX9_readProduct_48 ?_
  obtain ⟨s8, hs8, h⟩ := yb_bind h
  refine p_puti hs8 fp_X9_46 (sh_92 _ _) rfl rfl rfl dX9_readProduct_49 ?_
  refine n_aload_n (i := 0) dX9_readProduct_52 rfl rfl ?_
  refine n_iload_n (i := 1) dX9_readProduct_53 rfl rfl ?_
  obtain ⟨q9, hq9, h⟩ := yb_bind h
  refine p_callVv (As := [.int x1]) (H_X9_readFactor x1 _ _ hq9) cv_X9_109 (sh_92 _ _) rfl rfl (Nat.le_of_ble_eq_true rfl) dX9_readProduct_54 (yb_rok (by omega) (by decide)) ⟨rfl, rfl⟩ ⟨Nat.le_refl _, Nat.le_refl _⟩ (fun k10 => ?_)
  refine n_aload_n (i := 0) dX9_readProduct_57 rfl rfl ?_
  refine n_iload_n (i := 3) dX9_readProduct_58 rfl rfl ?_
  obtain ⟨q11, hq11, h⟩ := yb_bind h
  refine p_callVv (As := [.int v7]) (t_X9_put hq11) cv_X9_97 (sh_92 _ _) rfl rfl (Nat.le_of_ble_eq_true rfl) dX9_readProduct_59 (yb_rok (by omega) (by decide)) ⟨rfl, rfl⟩ ⟨Nat.le_refl _, Nat.le_refl _⟩ (fun k12 => ?_)
  refine n_iinc (vs' := [some (.ref (yb_ad G 92)), some (.int x1), some (.int (x2 + (1 : Int32))), some (.int v7)]) dX9_readProduct_62 rfl (ii_1 _) (Nat.le_of_ble_eq_true rfl) rfl rfl ?_
  refine n_goto 7 dX9_readProduct_65 (by decide) ?_
  exact p_jump (hrc7 (x2 + (1 : Int32)) q11 h) (And.intro rfl (And.intro rfl (And.intro rfl trivial)))
set_option maxHeartbeats 4000000 in
set_option maxRecDepth 20000 in
theorem t_l_X9_readProduct_7 {G : yb_G} {X : List (FieldType × Nat)} {r_X9_readFactor : (Int32 → yb_S → Option yb_S)} {r_X9_readProduct : (Int32 → yb_S → Option yb_S)} {r_X9_readSum : (Int32 → yb_S → Option yb_S)} {n : Nat} {x1 : Int32} {out : yb_S} (H_X9_readFactor : ∀ (a1 : Int32) (s : yb_S) (out : yb_S), r_X9_readFactor a1 s = some out → Ct G yX9_readFactor cX9_readFactor 2 none (yb_rm (3 + n)) [.ref (yb_ad G 92), .int a1] (yb_mk s X) (yb_qv X out)) (H_X9_readProduct : ∀ (a1 : Int32) (s : yb_S) (out : yb_S), r_X9_readProduct a1 s = some out → Ct G yX9_readProduct cX9_readProduct 4 none (yb_rm (3 + n)) [.ref (yb_ad G 92), .int a1] (yb_mk s X) (yb_qv X out)) (H_X9_readSum : ∀ (a1 : Int32) (s : yb_S) (out : yb_S), r_X9_readSum a1 s = some out → Ct G yX9_readSum cX9_readSum 4 none (yb_rm (3 + n)) [.ref (yb_ad G 92), .int a1] (yb_mk s X) (yb_qv X out)) : ∀ (k0 : Nat) (x2 : Int32) (s : yb_S), l_X9_readProduct_7 r_X9_readFactor r_X9_readProduct r_X9_readSum x1 k0 x2 s = some out → Rn G RX9 cX9_readProduct 4 none false (yb_rm (4 + n)) (yb_qv X out) 0 0 7 [some (.ref (yb_ad G 92)), some (.int x1), some (.int x2), none] [] (yb_mk s X) := by
  intro k0
  induction k0 with
  | zero => intro x2 s h; cases h
  | succ k0 ih =>
    intro x2 s h
    have h : f_X9_readProduct_7 r_X9_readFactor r_X9_readProduct r_X9_readSum (fun x2 s => l_X9_readProduct_7 r_X9_readFactor r_X9_readProduct r_X9_readSum x1 k0 x2 s) x1 x2 s = some out := h
    have hrc7 := ih
    unfold f_X9_readProduct_7 at h
    refine n_iload_n (i := 2) dX9_readProduct_7 rfl rfl ?_
    refine n_sipush (500 : Int32) dX9_readProduct_8 sp_500 ?_
    refine n_icmp_ge 68 dX9_readProduct_11 (by decide) (fun c3 => ?_) (fun c3 => ?_)
    · have h := yb_ifp c3 h
      cases h
      exact n_vret dX9_readProduct_68 rfl (Nat.le_refl _) (Nat.le_refl _) ⟨rfl, rfl⟩
    · have h := yb_ifn c3 h
      refine n_aload_n (i := 0) dX9_readProduct_14 rfl rfl ?_
      refine n_bipush (42 : Int32) dX9_readProduct_15 bp_42 ?_
      obtain ⟨q4, hq4, h⟩ := yb_bind h
      refine p_callVi (As := [.int (42 : Int32)]) (t_X9_isNext hq4) cv_X9_94 (sh_92 _ _) rfl rfl (Nat.le_of_ble_eq_true rfl) dX9_readProduct_17 (yb_rok (by omega) (by decide)) ⟨rfl, rfl⟩ ⟨Nat.le_refl _, Nat.le_refl _⟩ (fun k5 => ?_)
      refine n_if_ne 32 dX9_readProduct_20 (by decide) (fun c6 => ?_) (fun c6 => ?_)
      · have h := yb_ifn c6 h
        exact p_jump (tj_X9_readProduct_32 H_X9_readFactor H_X9_readProduct H_X9_readSum hrc7 h) (And.intro rfl (And.intro rfl (And.intro rfl trivial)))
      · have h := yb_ifp c6 h
        refine n_aload_n (i := 0) dX9_readProduct_23 rfl rfl ?_
        refine n_bipush (47 : Int32) dX9_readProduct_24 bp_47 ?_
        obtain ⟨q13, hq13, h⟩ := yb_bind h
        refine p_callVi (As := [.int (47 : Int32)]) (t_X9_isNext hq13) cv_X9_94 (sh_92 _ _) rfl rfl (Nat.le_of_ble_eq_true rfl) dX9_readProduct_26 (yb_rok (by omega) (by decide)) ⟨rfl, rfl⟩ ⟨Nat.le_refl _, Nat.le_refl _⟩ (fun k14 => ?_)
        refine n_if_eq 68 dX9_readProduct_29 (by decide) (fun c15 => ?_) (fun c15 => ?_)
        · have h := yb_ifp c15 h
          cases h
          exact n_vret dX9_readProduct_68 rfl (Nat.le_refl _) (Nat.le_refl _) ⟨rfl, rfl⟩
        · have h := yb_ifn c15 h
          exact p_jump (tj_X9_readProduct_32 H_X9_readFactor H_X9_readProduct H_X9_readSum hrc7 h) (And.intro rfl (And.intro rfl (And.intro rfl trivial)))
set_option maxHeartbeats 4000000 in
set_option maxRecDepth 20000 in
theorem tl_X9_readProduct_7 {G : yb_G} {X : List (FieldType × Nat)} {r_X9_readFactor : (Int32 → yb_S → Option yb_S)} {r_X9_readProduct : (Int32 → yb_S → Option yb_S)} {r_X9_readSum : (Int32 → yb_S → Option yb_S)} {n : Nat} {x1 : Int32} {out : yb_S} (H_X9_readFactor : ∀ (a1 : Int32) (s : yb_S) (out : yb_S), r_X9_readFactor a1 s = some out → Ct G yX9_readFactor cX9_readFactor 2 none (yb_rm (3 + n)) [.ref (yb_ad G 92), .int a1] (yb_mk s X) (yb_qv X out)) (H_X9_readProduct : ∀ (a1 : Int32) (s : yb_S) (out : yb_S), r_X9_readProduct a1 s = some out → Ct G yX9_readProduct cX9_readProduct 4 none (yb_rm (3 + n)) [.ref (yb_ad G 92), .int a1] (yb_mk s X) (yb_qv X out)) (H_X9_readSum : ∀ (a1 : Int32) (s : yb_S) (out : yb_S), r_X9_readSum a1 s = some out → Ct G yX9_readSum cX9_readSum 4 none (yb_rm (3 + n)) [.ref (yb_ad G 92), .int a1] (yb_mk s X) (yb_qv X out)) {x2 : Int32} {s : yb_S} (h : l_X9_readProduct_7 r_X9_readFactor r_X9_readProduct r_X9_readSum x1 yb_N x2 s = some out) : Rn G RX9 cX9_readProduct 4 none false (yb_rm (4 + n)) (yb_qv X out) 0 0 7 [some (.ref (yb_ad G 92)), some (.int x1), some (.int x2), none] [] (yb_mk s X) := t_l_X9_readProduct_7 H_X9_readFactor H_X9_readProduct H_X9_readSum _ _ _ h
set_option maxHeartbeats 4000000 in
set_option maxRecDepth 20000 in
theorem t_X9_readProduct {G : yb_G} {X : List (FieldType × Nat)} {r_X9_readFactor : (Int32 → yb_S → Option yb_S)} {r_X9_readProduct : (Int32 → yb_S → Option yb_S)} {r_X9_readSum : (Int32 → yb_S → Option yb_S)} {n : Nat} {a1 : Int32} {s : yb_S} {out : yb_S} (H_X9_readFactor : ∀ (a1 : Int32) (s : yb_S) (out : yb_S), r_X9_readFactor a1 s = some out → Ct G yX9_readFactor cX9_readFactor 2 none (yb_rm (3 + n)) [.ref (yb_ad G 92), .int a1] (yb_mk s X) (yb_qv X out)) (H_X9_readProduct : ∀ (a1 : Int32) (s : yb_S) (out : yb_S), r_X9_readProduct a1 s = some out → Ct G yX9_readProduct cX9_readProduct 4 none (yb_rm (3 + n)) [.ref (yb_ad G 92), .int a1] (yb_mk s X) (yb_qv X out)) (H_X9_readSum : ∀ (a1 : Int32) (s : yb_S) (out : yb_S), r_X9_readSum a1 s = some out → Ct G yX9_readSum cX9_readSum 4 none (yb_rm (3 + n)) [.ref (yb_ad G 92), .int a1] (yb_mk s X) (yb_qv X out)) (h : f_X9_readProduct r_X9_readFactor r_X9_readProduct r_X9_readSum a1 s = some out) : Ct G yX9_readProduct cX9_readProduct 4 none (yb_rm (4 + n)) [.ref (yb_ad G 92), .int a1] (yb_mk s X) (yb_qv X out) := by
  refine Ct.of (own := RX9) (ini := false) (vs := [some (.ref (yb_ad G 92)), some (.int a1), none, none]) ⟨rfl, by decide +kernel⟩ (fun h => by cases h) (Nat.le_of_ble_eq_true rfl) rfl ?_
  unfold f_X9_readProduct at h
  refine n_aload_n (i := 0) dX9_readProduct_0 rfl rfl ?_
  refine n_iload_n (i := 1) dX9_readProduct_1 rfl rfl ?_
  obtain ⟨q1, hq1, h⟩ := yb_bind h
  refine p_callVv (As := [.int a1]) (H_X9_readFactor a1 _ _ hq1) cv_X9_109 (sh_92 _ _) rfl rfl (Nat.le_of_ble_eq_true rfl) dX9_readProduct_2 (yb_rok (by omega) (by decide)) ⟨rfl, rfl⟩ ⟨Nat.le_refl _, Nat.le_refl _⟩ (fun k2 => ?_)
  refine n_iconst (0 : Int32) dX9_readProduct_5 ic_0 ?_
  refine n_istore_n (i := 2) (vs' := [some (.ref (yb_ad G 92)), some (.int a1), some (.int (0 : Int32)), none]) dX9_readProduct_6 rfl (Nat.le_of_ble_eq_true rfl) rfl rfl ?_
  exact p_jump (tl_X9_readProduct_7 H_X9_readFactor H_X9_readProduct H_X9_readSum h) (And.intro rfl (And.intro rfl (And.intro rfl trivial)))
set_option maxHeartbeats 4000000 in
set_option maxRecDepth 20000 in
theorem tj_X9_readSum_32 {G : yb_G} {X : List (FieldType × Nat)} {r_X9_readFactor : (Int32 → yb_S → Option yb_S)} {r_X9_readProduct : (Int32 → yb_S → Option yb_S)} {r_X9_readSum : (Int32 → yb_S → Option yb_S)} {n : Nat} {rc7 : (Int32 → yb_S → Option yb_S)} {x1 : Int32} {x2 : Int32} {s : yb_S} {out : yb_S} (H_X9_readFactor : ∀ (a1 : Int32) (s : yb_S) (out : yb_S), r_X9_readFactor a1 s = some out → Ct G yX9_readFactor cX9_readFactor 2 none (yb_rm (3 + n)) [.ref (yb_ad G 92), .int a1] (yb_mk s X) (yb_qv X out)) (H_X9_readProduct : ∀ (a1 : Int32) (s : yb_S) (out : yb_S), r_X9_readProduct a1 s = some out → Ct G yX9_readProduct cX9_readProduct 4 none (yb_rm (3 + n)) [.ref (yb_ad G 92), .int a1] (yb_mk s X) (yb_qv X out)) (H_X9_readSum : ∀ (a1 : Int32) (s : yb_S) (out : yb_S), r_X9_readSum a1 s = some out → Ct G yX9_readSum cX9_readSum 4 none (yb_rm (3 + n)) [.ref (yb_ad G 92), .int a1] (yb_mk s X) (yb_qv X out)) (hrc7 : ∀ (x2' : Int32) (s' : yb_S), rc7 x2' s' = some out → Rn G RX9 cX9_readSum 4 none false (yb_rm (4 + n)) (yb_qv X out) 0 0 7 [some (.ref (yb_ad G 92)), some (.int x1), some (.int x2'), none] [] (yb_mk s' X)) (h : j_X9_readSum_32 r_X9_readFactor r_X9_readProduct r_X9_readSum rc7 x1 x2 s = some out) : Rn G RX9 cX9_readSum 4 none false (yb_rm (4 + n)) (yb_qv X out) 0 0 32 [some (.ref (yb_ad G 92)), some (.int x1), some (.int x2), none] [] (yb_mk s X) := by
  unfold j_X9_readSum_32 at h
  refine n_aload_n (i := 0) dX9_readSum_32 rfl rfl ?_
  refine p_getr fl_X9_24 (sh_92 _ _) rfl (rR_92_7 _ _) dX9_readSum_33 ?_
  refine n_aload_n (i := 0) dX9_readSum_36 rfl rfl ?_
  refine p_geti fl_X9_46 (sh_92 _ _) rfl dX9_readSum_37 ?_
  obtain ⟨v7, hv7, h⟩ := yb_bind h
  refine p_iald hv7 (sh_97 _ _) dX9_readSum_40 ?_
  refine n_istore_n (i := 3) (vs' := [some (.ref (yb_ad G 92)), some (.int x1), some (.int x2), some (.int v7)]) dX9_readSum_41 rfl (Nat.le_of_ble_eq_true rfl) rfl rfl ?_
  refine n_aload_n (i := 0) dX9_readSum_42 rfl rfl ?_
  refine n_dup dX9_readSum_43 rfl ?_
  refine p_geti fl_X9_46 (sh_92 _ _) rfl dX9_readSum_44 ?_
  refine n_iconst (1 : Int32) dX9_readSum_47 ic_1 ?_
  refine n_iadd dX9_readSum_48 ?_
  obtain ⟨s8, hs8, h⟩ := yb_bind h
  refine p_puti hs8 fp_X9_46 (sh_92 _ _) rfl rfl rfl dX9_readSum_49 ?_
  refine n_aload_n (i := 0) dX9_readSum_52 rfl rfl ?_
  refine n_iload_n (i := 1) dX9_readSum_53 rfl rfl ?_
  obtain ⟨q9, hq9, h⟩ := yb_bind h
  refine p_callVv (As := [.int x1]) (H_X9_readProduct x1 _ _ hq9) cv_X9_106 (sh_92 _ _) rfl rfl (Nat.le_of_ble_eq_true rfl) dX9_readSum_54 (yb_rok (by omega) (by decide)) ⟨rfl, rfl⟩ ⟨Nat.le_refl _, Nat.le_refl _⟩ (fun k10 => ?_)
  refine n_aload_n (i := 0) dX9_readSum_57 rfl rfl ?_
  refine n_iload_n (i := 3) dX9_readSum_58 rfl rfl ?_
  obtain ⟨q11, hq11, h⟩ := yb_bind h
  refine p_callVv (As := [.int v7]) (t_X9_put hq11) cv_X9_97 (sh_92 _ _) rfl rfl (Nat.le_of_ble_eq_true rfl) dX9_readSum_59 (yb_rok (by omega) (by decide)) ⟨rfl, rfl⟩ ⟨Nat.le_refl _, Nat.le_refl _⟩ (fun k12 => ?_)
  refine n_iinc (vs' := [some (.ref (yb_ad G 92)), some (.int x1), some (.int (x2 + (1 : Int32))), some (.int v7)]) dX9_readSum_62 rfl (ii_1 _) (Nat.le_of_ble_eq_true rfl) rfl rfl ?_
  refine n_goto 7 dX9_readSum_65 (by decide) ?_
  exact p_jump (hrc7 (x2 + (1 : Int32)) q11 h) (And.intro rfl (And.intro rfl (And.intro rfl trivial)))
set_option maxHeartbeats 4000000 in
set_option maxRecDepth 20000 in
theorem t_l_X9_readSum_7 {G : yb_G} {X : List (FieldType × Nat)} {r_X9_readFactor : (Int32 → yb_S → Option yb_S)} {r_X9_readProduct : (Int32 → yb_S → Option yb_S)} {r_X9_readSum : (Int32 → yb_S → Option yb_S)} {n : Nat} {x1 : Int32} {out : yb_S} (H_X9_readFactor : ∀ (a1 : Int32) (s : yb_S) (out : yb_S), r_X9_readFactor a1 s = some out → Ct G yX9_readFactor cX9_readFactor 2 none (yb_rm (3 + n)) [.ref (yb_ad G 92), .int a1] (yb_mk s X) (yb_qv X out)) (H_X9_readProduct : ∀ (a1 : Int32) (s : yb_S) (out : yb_S), r_X9_readProduct a1 s = some out → Ct G yX9_readProduct cX9_readProduct 4 none (yb_rm (3 + n)) [.ref (yb_ad G 92), .int a1] (yb_mk s X) (yb_qv X out)) (H_X9_readSum : ∀ (a1 : Int32) (s : yb_S) (out : yb_S), r_X9_readSum a1 s = some out → Ct G yX9_readSum cX9_readSum 4 none (yb_rm (3 + n)) [.ref (yb_ad G 92), .int a1] (yb_mk s X) (yb_qv X out)) : ∀ (k0 : Nat) (x2 : Int32) (s : yb_S), l_X9_readSum_7 r_X9_readFactor r_X9_readProduct r_X9_readSum x1 k0 x2 s = some out → Rn G RX9 cX9_readSum 4 none false (yb_rm (4 + n)) (yb_qv X out) 0 0 7 [some (.ref (yb_ad G 92)), some (.int x1), some (.int x2), none] [] (yb_mk s X) := by
  intro k0
  induction k0 with
  | zero => intro x2 s h; cases h
  | succ k0 ih =>
    intro x2 s h
    have h : f_X9_readSum_7 r_X9_readFactor r_X9_readProduct r_X9_readSum (fun x2 s => l_X9_readSum_7 r_X9_readFactor r_X9_readProduct r_X9_readSum x1 k0 x2 s) x1 x2 s = some out := h
    have hrc7 := ih
    unfold f_X9_readSum_7 at h
    refine n_iload_n (i := 2) dX9_readSum_7 rfl rfl ?_
    refine n_sipush (500 : Int32) dX9_readSum_8 sp_500 ?_
    refine n_icmp_ge 68 dX9_readSum_11 (by decide) (fun c3 => ?_) (fun c3 => ?_)
    · have h := yb_ifp c3 h
      cases h
      exact n_vret dX9_readSum_68 rfl (Nat.le_refl _) (Nat.le_refl _) ⟨rfl, rfl⟩
    · have h := yb_ifn c3 h
      refine n_aload_n (i := 0) dX9_readSum_14 rfl rfl ?_
      refine n_bipush (43 : Int32) dX9_readSum_15 bp_43 ?_
      obtain ⟨q4, hq4, h⟩ := yb_bind h
      refine p_callVi (As := [.int (43 : Int32)]) (t_X9_isNext hq4) cv_X9_94 (sh_92 _ _) rfl rfl (Nat.le_of_ble_eq_true rfl) dX9_readSum_17 (yb_rok (by omega) (by decide)) ⟨rfl, rfl⟩ ⟨Nat.le_refl _, Nat.le_refl _⟩ (fun k5 => ?_)
      refine n_if_ne 32 dX9_readSum_20 (by decide) (fun c6 => ?_) (fun c6 => ?_)
      · have h := yb_ifn c6 h
        exact p_jump (tj_X9_readSum_32 H_X9_readFactor H_X9_readProduct H_X9_readSum hrc7 h) (And.intro rfl (And.intro rfl (And.intro rfl trivial)))
      · have h := yb_ifp c6 h
        refine n_aload_n (i := 0) dX9_readSum_23 rfl rfl ?_
        refine n_bipush (45 : Int32) dX9_readSum_24 bp_45 ?_
        obtain ⟨q13, hq13, h⟩ := yb_bind h
        refine p_callVi (As := [.int (45 : Int32)]) (t_X9_isNext hq13) cv_X9_94 (sh_92 _ _) rfl rfl (Nat.le_of_ble_eq_true rfl) dX9_readSum_26 (yb_rok (by omega) (by decide)) ⟨rfl, rfl⟩ ⟨Nat.le_refl _, Nat.le_refl _⟩ (fun k14 => ?_)
        refine n_if_eq 68 dX9_readSum_29 (by decide) (fun c15 => ?_) (fun c15 => ?_)
        · have h := yb_ifp c15 h
          cases h
          exact n_vret dX9_readSum_68 rfl (Nat.le_refl _) (Nat.le_refl _) ⟨rfl, rfl⟩
        · have h := yb_ifn c15 h
          exact p_jump (tj_X9_readSum_32 H_X9_readFactor H_X9_readProduct H_X9_readSum hrc7 h) (And.intro rfl (And.intro rfl (And.intro rfl trivial)))
set_option maxHeartbeats 4000000 in
set_option maxRecDepth 20000 in
theorem tl_X9_readSum_7 {G : yb_G} {X : List (FieldType × Nat)} {r_X9_readFactor : (Int32 → yb_S → Option yb_S)} {r_X9_readProduct : (Int32 → yb_S → Option yb_S)} {r_X9_readSum : (Int32 → yb_S → Option yb_S)} {n : Nat} {x1 : Int32} {out : yb_S} (H_X9_readFactor : ∀ (a1 : Int32) (s : yb_S) (out : yb_S), r_X9_readFactor a1 s = some out → Ct G yX9_readFactor cX9_readFactor 2 none (yb_rm (3 + n)) [.ref (yb_ad G 92), .int a1] (yb_mk s X) (yb_qv X out)) (H_X9_readProduct : ∀ (a1 : Int32) (s : yb_S) (out : yb_S), r_X9_readProduct a1 s = some out → Ct G yX9_readProduct cX9_readProduct 4 none (yb_rm (3 + n)) [.ref (yb_ad G 92), .int a1] (yb_mk s X) (yb_qv X out)) (H_X9_readSum : ∀ (a1 : Int32) (s : yb_S) (out : yb_S), r_X9_readSum a1 s = some out → Ct G yX9_readSum cX9_readSum 4 none (yb_rm (3 + n)) [.ref (yb_ad G 92), .int a1] (yb_mk s X) (yb_qv X out)) {x2 : Int32} {s : yb_S} (h : l_X9_readSum_7 r_X9_readFactor r_X9_readProduct r_X9_readSum x1 yb_N x2 s = some out) : Rn G RX9 cX9_readSum 4 none false (yb_rm (4 + n)) (yb_qv X out) 0 0 7 [some (.ref (yb_ad G 92)), some (.int x1), some (.int x2), none] [] (yb_mk s X) := t_l_X9_readSum_7 H_X9_readFactor H_X9_readProduct H_X9_readSum _ _ _ h
set_option maxHeartbeats 4000000 in
set_option maxRecDepth 20000 in
theorem t_X9_readSum {G : yb_G} {X : List (FieldType × Nat)} {r_X9_readFactor : (Int32 → yb_S → Option yb_S)} {r_X9_readProduct : (Int32 → yb_S → Option yb_S)} {r_X9_readSum : (Int32 → yb_S → Option yb_S)} {n : Nat} {a1 : Int32} {s : yb_S} {out : yb_S} (H_X9_readFactor : ∀ (a1 : Int32) (s : yb_S) (out : yb_S), r_X9_readFactor a1 s = some out → Ct G yX9_readFactor cX9_readFactor 2 none (yb_rm (3 + n)) [.ref (yb_ad G 92), .int a1] (yb_mk s X) (yb_qv X out)) (H_X9_readProduct : ∀ (a1 : Int32) (s : yb_S) (out : yb_S), r_X9_readProduct a1 s = some out → Ct G yX9_readProduct cX9_readProduct 4 none (yb_rm (3 + n)) [.ref (yb_ad G 92), .int a1] (yb_mk s X) (yb_qv X out)) (H_X9_readSum : ∀ (a1 : Int32) (s : yb_S) (out : yb_S), r_X9_readSum a1 s = some out → Ct G yX9_readSum cX9_readSum 4 none (yb_rm (3 + n)) [.ref (yb_ad G 92), .int a1] (yb_mk s X) (yb_qv X out)) (h : f_X9_readSum r_X9_readFactor r_X9_readProduct r_X9_readSum a1 s = some out) : Ct G yX9_readSum cX9_readSum 4 none (yb_rm (4 + n)) [.ref (yb_ad G 92), .int a1] (yb_mk s X) (yb_qv X out) := by
  refine Ct.of (own := RX9) (ini := false) (vs := [some (.ref (yb_ad G 92)), some (.int a1), none, none]) ⟨rfl, by decide +kernel⟩ (fun h => by cases h) (Nat.le_of_ble_eq_true rfl) rfl ?_
  unfold f_X9_readSum at h
  refine n_aload_n (i := 0) dX9_readSum_0 rfl rfl ?_
  refine n_iload_n (i := 1) dX9_readSum_1 rfl rfl ?_
  obtain ⟨q1, hq1, h⟩ := yb_bind h
  refine p_callVv (As := [.int a1]) (H_X9_readProduct a1 _ _ hq1) cv_X9_106 (sh_92 _ _) rfl rfl (Nat.le_of_ble_eq_true rfl) dX9_readSum_2 (yb_rok (by omega) (by decide)) ⟨rfl, rfl⟩ ⟨Nat.le_refl _, Nat.le_refl _⟩ (fun k2 => ?_)
  refine n_iconst (0 : Int32) dX9_readSum_5 ic_0 ?_
  refine n_istore_n (i := 2) (vs' := [some (.ref (yb_ad G 92)), some (.int a1), some (.int (0 : Int32)), none]) dX9_readSum_6 rfl (Nat.le_of_ble_eq_true rfl) rfl rfl ?_
  exact p_jump (tl_X9_readSum_7 H_X9_readFactor H_X9_readProduct H_X9_readSum h) (And.intro rfl (And.intro rfl (And.intro rfl trivial)))
set_option maxHeartbeats 4000000 in
set_option maxRecDepth 20000 in
theorem tg_X9_readFactor (G : yb_G) (X : List (FieldType × Nat)) : ∀ n : Nat, (∀ (a1 : Int32) (s : yb_S) (out : yb_S), (gg_X9_readFactor n).1 a1 s = some out → Ct G yX9_readFactor cX9_readFactor 2 none (yb_rm (3 + n)) [.ref (yb_ad G 92), .int a1] (yb_mk s X) (yb_qv X out)) ∧ (∀ (a1 : Int32) (s : yb_S) (out : yb_S), (gg_X9_readFactor n).2.1 a1 s = some out → Ct G yX9_readProduct cX9_readProduct 4 none (yb_rm (3 + n)) [.ref (yb_ad G 92), .int a1] (yb_mk s X) (yb_qv X out)) ∧ (∀ (a1 : Int32) (s : yb_S) (out : yb_S), (gg_X9_readFactor n).2.2 a1 s = some out → Ct G yX9_readSum cX9_readSum 4 none (yb_rm (3 + n)) [.ref (yb_ad G 92), .int a1] (yb_mk s X) (yb_qv X out)) := by
  intro n
  induction n with
  | zero => exact ⟨(fun _ _ _ h => by cases h), (fun _ _ _ h => by cases h), (fun _ _ _ h => by cases h)⟩
  | succ n ih =>
    obtain ⟨h0, h1, h2⟩ := ih
    rw [show 3 + (n + 1) = 4 + n from by omega]
    exact ⟨(fun a1 s out h => t_X9_readFactor h0 h1 h2 h), (fun a1 s out h => t_X9_readProduct h0 h1 h2 h), (fun a1 s out h => t_X9_readSum h0 h1 h2 h)⟩
set_option maxHeartbeats 4000000 in
set_option maxRecDepth 20000 in
theorem tt_X9_readFactor {G : yb_G} {X : List (FieldType × Nat)} {a1 : Int32} {s : yb_S} {out : yb_S} (h : g_X9_readFactor a1 s = some out) : Ct G yX9_readFactor cX9_readFactor 2 none (yb_rm 123) [.ref (yb_ad G 92), .int a1] (yb_mk s X) (yb_qv X out) := (tg_X9_readFactor G X 120).1 a1 s out h
set_option maxHeartbeats 4000000 in
set_option maxRecDepth 20000 in
theorem tt_X9_readProduct {G : yb_G} {X : List (FieldType × Nat)} {a1 : Int32} {s : yb_S} {out : yb_S} (h : g_X9_readProduct a1 s = some out) : Ct G yX9_readProduct cX9_readProduct 4 none (yb_rm 123) [.ref (yb_ad G 92), .int a1] (yb_mk s X) (yb_qv X out) := (tg_X9_readFactor G X 120).2.1 a1 s out h
set_option maxHeartbeats 4000000 in
set_option maxRecDepth 20000 in
theorem tt_X9_readSum {G : yb_G} {X : List (FieldType × Nat)} {a1 : Int32} {s : yb_S} {out : yb_S} (h : g_X9_readSum a1 s = some out) : Ct G yX9_readSum cX9_readSum 4 none (yb_rm 123) [.ref (yb_ad G 92), .int a1] (yb_mk s X) (yb_qv X out) := (tg_X9_readFactor G X 120).2.2 a1 s out h
set_option maxHeartbeats 4000000 in
set_option maxRecDepth 20000 in
theorem t_l_X9_readAny_7 {G : yb_G} {X : List (FieldType × Nat)} {r_X9_readAny : (Int32 → yb_S → Option yb_S)} {r_X9_readEach : (Int32 → yb_S → Option yb_S)} {r_X9_readHolds : (Int32 → yb_S → Option yb_S)} {n : Nat} {x1 : Int32} {out : yb_S} (H_X9_readAny : ∀ (a1 : Int32) (s : yb_S) (out : yb_S), r_X9_readAny a1 s = some out → Ct G yX9_readAny cX9_readAny 3 none (yb_rm (124 + n)) [.ref (yb_ad G 92), .int a1] (yb_mk s X) (yb_qv X out)) (H_X9_readEach : ∀ (a1 : Int32) (s : yb_S) (out : yb_S), r_X9_readEach a1 s = some out → Ct G yX9_readEach cX9_readEach 3 none (yb_rm (124 + n)) [.ref (yb_ad G 92), .int a1] (yb_mk s X) (yb_qv X out)) (H_X9_readHolds : ∀ (a1 : Int32) (s : yb_S) (out : yb_S), r_X9_readHolds a1 s = some out → Ct G yX9_readHolds cX9_readHolds 4 none (yb_rm (124 + n)) [.ref (yb_ad G 92), .int a1] (yb_mk s X) (yb_qv X out)) : ∀ (k0 : Nat) (x2 : Int32) (s : yb_S), l_X9_readAny_7 r_X9_readAny r_X9_readEach r_X9_readHolds x1 k0 x2 s = some out → Rn G RX9 cX9_readAny 3 none false (yb_rm (125 + n)) (yb_qv X out) 0 0 7 [some (.ref (yb_ad G 92)), some (.int x1), some (.int x2)] [] (yb_mk s X) := by
  intro k0
  induction k0 with
  | zero => intro x2 s h; cases h
  | succ k0 ih =>
    intro x2 s h
    have h : f_X9_readAny_7 r_X9_readAny r_X9_readEach r_X9_readHolds (fun x2 s => l_X9_readAny_7 r_X9_readAny r_X9_readEach r_X9_readHolds x1 k0 x2 s) x1 x2 s = some out := h
    have hrc7 := ih
    unfold f_X9_readAny_7 at h
    refine n_iload_n (i := 2) dX9_readAny_7 rfl rfl ?_
    refine n_sipush (500 : Int32) dX9_readAny_8 sp_500 ?_
    refine n_icmp_ge 49 dX9_readAny_11 (by decide) (fun c3 => ?_) (fun c3 => ?_)
    · have h := yb_ifp c3 h
      cases h
      exact n_vret dX9_readAny_49 rfl (Nat.le_refl _) (Nat.le_refl _) ⟨rfl, rfl⟩
    · have h := yb_ifn c3 h
      refine n_aload_n (i := 0) dX9_readAny_14 rfl rfl ?_
      refine n_iconst (5 : Int32) dX9_readAny_15 ic_5 ?_
      obtain ⟨q4, hq4, h⟩ := yb_bind h
      refine p_callVi (As := [.int (5 : Int32)]) (t_X9_isNext hq4) cv_X9_94 (sh_92 _ _) rfl rfl (Nat.le_of_ble_eq_true rfl) dX9_readAny_16 (yb_rok (by omega) (by decide)) ⟨rfl, rfl⟩ ⟨Nat.le_refl _, Nat.le_refl _⟩ (fun k5 => ?_)
      refine n_if_eq 49 dX9_readAny_19 (by decide) (fun c6 => ?_) (fun c6 => ?_)
      · have h := yb_ifp c6 h
        cases h
        exact n_vret dX9_readAny_49 rfl (Nat.le_refl _) (Nat.le_refl _) ⟨rfl, rfl⟩
      · have h := yb_ifn c6 h
        refine n_aload_n (i := 0) dX9_readAny_22 rfl rfl ?_
        refine n_dup dX9_readAny_23 rfl ?_
        refine p_geti fl_X9_46 (sh_92 _ _) rfl dX9_readAny_24 ?_
        refine n_iconst (1 : Int32) dX9_readAny_27 ic_1 ?_
        refine n_iadd dX9_readAny_28 ?_
        obtain ⟨s7, hs7, h⟩ := yb_bind h
        refine p_puti hs7 fp_X9_46 (sh_92 _ _) rfl rfl rfl dX9_readAny_29 ?_
        refine n_aload_n (i := 0) dX9_readAny_32 rfl rfl ?_
        refine n_iload_n (i := 1) dX9_readAny_33 rfl rfl ?_
        obtain ⟨q8, hq8, h⟩ := yb_bind h
        refine p_callVv (As := [.int x1]) (H_X9_readEach x1 _ _ hq8) cv_X9_91 (sh_92 _ _) rfl rfl (Nat.le_of_ble_eq_true rfl) dX9_readAny_34 (yb_rok (by omega) (by decide)) ⟨rfl, rfl⟩ ⟨Nat.le_refl _, Nat.le_refl _⟩ (fun k9 => ?_)
        refine n_aload_n (i := 0) dX9_readAny_37 rfl rfl ?_
        refine n_bipush (21 : Int32) dX9_readAny_38 bp_21 ?_
        obtain ⟨q10, hq10, h⟩ := yb_bind h
        refine p_callVv (As := [.int (21 : Int32)]) (t_X9_put hq10) cv_X9_97 (sh_92 _ _) rfl rfl (Nat.le_of_ble_eq_true rfl) dX9_readAny_40 (yb_rok (by omega) (by decide)) ⟨rfl, rfl⟩ ⟨Nat.le_refl _, Nat.le_refl _⟩ (fun k11 => ?_)
        refine n_iinc (vs' := [some (.ref (yb_ad G 92)), some (.int x1), some (.int (x2 + (1 : Int32)))]) dX9_readAny_43 rfl (ii_1 _) (Nat.le_of_ble_eq_true rfl) rfl rfl ?_
        refine n_goto 7 dX9_readAny_46 (by decide) ?_
        exact p_jump (hrc7 (x2 + (1 : Int32)) q10 h) (And.intro rfl (And.intro rfl (And.intro rfl trivial)))
set_option maxHeartbeats 4000000 in
set_option maxRecDepth 20000 in
theorem tl_X9_readAny_7 {G : yb_G} {X : List (FieldType × Nat)} {r_X9_readAny : (Int32 → yb_S → Option yb_S)} {r_X9_readEach : (Int32 → yb_S → Option yb_S)} {r_X9_readHolds : (Int32 → yb_S → Option yb_S)} {n : Nat} {x1 : Int32} {out : yb_S} (H_X9_readAny : ∀ (a1 : Int32) (s : yb_S) (out : yb_S), r_X9_readAny a1 s = some out → Ct G yX9_readAny cX9_readAny 3 none (yb_rm (124 + n)) [.ref (yb_ad G 92), .int a1] (yb_mk s X) (yb_qv X out)) (H_X9_readEach : ∀ (a1 : Int32) (s : yb_S) (out : yb_S), r_X9_readEach a1 s = some out → Ct G yX9_readEach cX9_readEach 3 none (yb_rm (124 + n)) [.ref (yb_ad G 92), .int a1] (yb_mk s X) (yb_qv X out)) (H_X9_readHolds : ∀ (a1 : Int32) (s : yb_S) (out : yb_S), r_X9_readHolds a1 s = some out → Ct G yX9_readHolds cX9_readHolds 4 none (yb_rm (124 + n)) [.ref (yb_ad G 92), .int a1] (yb_mk s X) (yb_qv X out)) {x2 : Int32} {s : yb_S} (h : l_X9_readAny_7 r_X9_readAny r_X9_readEach r_X9_readHolds x1 yb_N x2 s = some out) : Rn G RX9 cX9_readAny 3 none false (yb_rm (125 + n)) (yb_qv X out) 0 0 7 [some (.ref (yb_ad G 92)), some (.int x1), some (.int x2)] [] (yb_mk s X) := t_l_X9_readAny_7 H_X9_readAny H_X9_readEach H_X9_readHolds _ _ _ h
set_option maxHeartbeats 4000000 in
set_option maxRecDepth 20000 in
theorem t_X9_readAny {G : yb_G} {X : List (FieldType × Nat)} {r_X9_readAny : (Int32 → yb_S → Option yb_S)} {r_X9_readEach : (Int32 → yb_S → Option yb_S)} {r_X9_readHolds : (Int32 → yb_S → Option yb_S)} {n : Nat} {a1 : Int32} {s : yb_S} {out : yb_S} (H_X9_readAny : ∀ (a1 : Int32) (s : yb_S) (out : yb_S), r_X9_readAny a1 s = some out → Ct G yX9_readAny cX9_readAny 3 none (yb_rm (124 + n)) [.ref (yb_ad G 92), .int a1] (yb_mk s X) (yb_qv X out)) (H_X9_readEach : ∀ (a1 : Int32) (s : yb_S) (out : yb_S), r_X9_readEach a1 s = some out → Ct G yX9_readEach cX9_readEach 3 none (yb_rm (124 + n)) [.ref (yb_ad G 92), .int a1] (yb_mk s X) (yb_qv X out)) (H_X9_readHolds : ∀ (a1 : Int32) (s : yb_S) (out : yb_S), r_X9_readHolds a1 s = some out → Ct G yX9_readHolds cX9_readHolds 4 none (yb_rm (124 + n)) [.ref (yb_ad G 92), .int a1] (yb_mk s X) (yb_qv X out)) (h : f_X9_readAny r_X9_readAny r_X9_readEach r_X9_readHolds a1 s = some out) : Ct G yX9_readAny cX9_readAny 3 none (yb_rm (125 + n)) [.ref (yb_ad G 92), .int a1] (yb_mk s X) (yb_qv X out) := by
  refine Ct.of (own := RX9) (ini := false) (vs := [some (.ref (yb_ad G 92)), some (.int a1), none]) ⟨rfl, by decide +kernel⟩ (fun h => by cases h) (Nat.le_of_ble_eq_true rfl) rfl ?_
  unfold f_X9_readAny at h
  refine n_aload_n (i := 0) dX9_readAny_0 rfl rfl ?_
  refine n_iload_n (i := 1) dX9_readAny_1 rfl rfl ?_
  obtain ⟨q1, hq1, h⟩ := yb_bind h
  refine p_callVv (As := [.int a1]) (H_X9_readEach a1 _ _ hq1) cv_X9_91 (sh_92 _ _) rfl rfl (Nat.le_of_ble_eq_true rfl) dX9_readAny_2 (yb_rok (by omega) (by decide)) ⟨rfl, rfl⟩ ⟨Nat.le_refl _, Nat.le_refl _⟩ (fun k2 => ?_)
  refine n_iconst (0 : Int32) dX9_readAny_5 ic_0 ?_
  refine n_istore_n (i := 2) (vs' := [some (.ref (yb_ad G 92)), some (.int a1), some (.int (0 : Int32))]) dX9_readAny_6 rfl (Nat.le_of_ble_eq_true rfl) rfl rfl ?_
  exact p_jump (tl_X9_readAny_7 H_X9_readAny H_X9_readEach H_X9_readHolds h) (And.intro rfl (And.intro rfl (And.intro rfl trivial)))
set_option maxHeartbeats 4000000 in
set_option maxRecDepth 20000 in
theorem t_l_X9_readEach_7 {G : yb_G} {X : List (FieldType × Nat)} {r_X9_readAny : (Int32 → yb_S → Option yb_S)} {r_X9_readEach : (Int32 → yb_S → Option yb_S)} {r_X9_readHolds : (Int32 → yb_S → Option yb_S)} {n : Nat} {x1 : Int32} {out : yb_S} (H_X9_readAny : ∀ (a1 : Int32) (s : yb_S) (out : yb_S), r_X9_readAny a1 s = some out → Ct G yX9_readAny cX9_readAny 3 none (yb_rm (124 + n)) [.ref (yb_ad G 92), .int a1] (yb_mk s X) (yb_qv X out)) (H_X9_readEach : ∀ (a1 : Int32) (s : yb_S) (out : yb_S), r_X9_readEach a1 s = some out → Ct G yX9_readEach cX9_readEach 3 none (yb_rm (124 + n)) [.ref (yb_ad G 92), .int a1] (yb_mk s X) (yb_qv X out)) (H_X9_readHolds : ∀ (a1 : Int32) (s : yb_S) (out : yb_S), r_X9_readHolds a1 s = some out → Ct G yX9_readHolds cX9_readHolds 4 none (yb_rm (124 + n)) [.ref (yb_ad G 92), .int a1] (yb_mk s X) (yb_qv X out)) : ∀ (k0 : Nat) (x2 : Int32) (s : yb_S), l_X9_readEach_7 r_X9_readAny r_X9_readEach r_X9_readHolds x1 k0 x2 s = some out → Rn G RX9 cX9_readEach 3 none false (yb_rm (125 + n)) (yb_qv X out) 0 0 7 [some (.ref (yb_ad G 92)), some (.int x1), some (.int x2)] [] (yb_mk s X) := by
  intro k0
  induction k0 with
  | zero => intro x2 s h; cases h
  | succ k0 ih =>
    intro x2 s h
    have h : f_X9_readEach_7 r_X9_readAny r_X9_readEach r_X9_readHolds (fun x2 s => l_X9_readEach_7 r_X9_readAny r_X9_readEach r_X9_readHolds x1 k0 x2 s) x1 x2 s = some out := h
    have hrc7 := ih
    unfold f_X9_readEach_7 at h
    refine n_iload_n (i := 2) dX9_readEach_7 rfl rfl ?_
    refine n_sipush (500 : Int32) dX9_readEach_8 sp_500 ?_
    refine n_icmp_ge 49 dX9_readEach_11 (by decide) (fun c3 => ?_) (fun c3 => ?_)
    · have h := yb_ifp c3 h
      cases h
      exact n_vret dX9_readEach_49 rfl (Nat.le_refl _) (Nat.le_refl _) ⟨rfl, rfl⟩
    · have h := yb_ifn c3 h
      refine n_aload_n (i := 0) dX9_readEach_14 rfl rfl ?_
      refine n_iconst (4 : Int32) dX9_readEach_15 ic_4 ?_
      obtain ⟨q4, hq4, h⟩ := yb_bind h
      refine p_callVi (As := [.int (4 : Int32)]) (t_X9_isNext hq4) cv_X9_94 (sh_92 _ _) rfl rfl (Nat.le_of_ble_eq_true rfl) dX9_readEach_16 (yb_rok (by omega) (by decide)) ⟨rfl, rfl⟩ ⟨Nat.le_refl _, Nat.le_refl _⟩ (fun k5 => ?_)
      refine n_if_eq 49 dX9_readEach_19 (by decide) (fun c6 => ?_) (fun c6 => ?_)
      · have h := yb_ifp c6 h
        cases h
        exact n_vret dX9_readEach_49 rfl (Nat.le_refl _) (Nat.le_refl _) ⟨rfl, rfl⟩
      · have h := yb_ifn c6 h
        refine n_aload_n (i := 0) dX9_readEach_22 rfl rfl ?_
        refine n_dup dX9_readEach_23 rfl ?_
        refine p_geti fl_X9_46 (sh_92 _ _) rfl dX9_readEach_24 ?_
        refine n_iconst (1 : Int32) dX9_readEach_27 ic_1 ?_
        refine n_iadd dX9_readEach_28 ?_
        obtain ⟨s7, hs7, h⟩ := yb_bind h
        refine p_puti hs7 fp_X9_46 (sh_92 _ _) rfl rfl rfl dX9_readEach_29 ?_
        refine n_aload_n (i := 0) dX9_readEach_32 rfl rfl ?_
        refine n_iload_n (i := 1) dX9_readEach_33 rfl rfl ?_
        obtain ⟨q8, hq8, h⟩ := yb_bind h
        refine p_callVv (As := [.int x1]) (H_X9_readHolds x1 _ _ hq8) cv_X9_100 (sh_92 _ _) rfl rfl (Nat.le_of_ble_eq_true rfl) dX9_readEach_34 (yb_rok (by omega) (by decide)) ⟨rfl, rfl⟩ ⟨Nat.le_refl _, Nat.le_refl _⟩ (fun k9 => ?_)
        refine n_aload_n (i := 0) dX9_readEach_37 rfl rfl ?_
        refine n_bipush (20 : Int32) dX9_readEach_38 bp_20 ?_
        obtain ⟨q10, hq10, h⟩ := yb_bind h
        refine p_callVv (As := [.int (20 : Int32)]) (t_X9_put hq10) cv_X9_97 (sh_92 _ _) rfl rfl (Nat.le_of_ble_eq_true rfl) dX9_readEach_40 (yb_rok (by omega) (by decide)) ⟨rfl, rfl⟩ ⟨Nat.le_refl _, Nat.le_refl _⟩ (fun k11 => ?_)
        refine n_iinc (vs' := [some (.ref (yb_ad G 92)), some (.int x1), some (.int (x2 + (1 : Int32)))]) dX9_readEach_43 rfl (ii_1 _) (Nat.le_of_ble_eq_true rfl) rfl rfl ?_
        refine n_goto 7 dX9_readEach_46 (by decide) ?_
        exact p_jump (hrc7 (x2 + (1 : Int32)) q10 h) (And.intro rfl (And.intro rfl (And.intro rfl trivial)))
set_option maxHeartbeats 4000000 in
set_option maxRecDepth 20000 in
theorem tl_X9_readEach_7 {G : yb_G} {X : List (FieldType × Nat)} {r_X9_readAny : (Int32 → yb_S → Option yb_S)} {r_X9_readEach : (Int32 → yb_S → Option yb_S)} {r_X9_readHolds : (Int32 → yb_S → Option yb_S)} {n : Nat} {x1 : Int32} {out : yb_S} (H_X9_readAny : ∀ (a1 : Int32) (s : yb_S) (out : yb_S), r_X9_readAny a1 s = some out → Ct G yX9_readAny cX9_readAny 3 none (yb_rm (124 + n)) [.ref (yb_ad G 92), .int a1] (yb_mk s X) (yb_qv X out)) (H_X9_readEach : ∀ (a1 : Int32) (s : yb_S) (out : yb_S), r_X9_readEach a1 s = some out → Ct G yX9_readEach cX9_readEach 3 none (yb_rm (124 + n)) [.ref (yb_ad G 92), .int a1] (yb_mk s X) (yb_qv X out)) (H_X9_readHolds : ∀ (a1 : Int32) (s : yb_S) (out : yb_S), r_X9_readHolds a1 s = some out → Ct G yX9_readHolds cX9_readHolds 4 none (yb_rm (124 + n)) [.ref (yb_ad G 92), .int a1] (yb_mk s X) (yb_qv X out)) {x2 : Int32} {s : yb_S} (h : l_X9_readEach_7 r_X9_readAny r_X9_readEach r_X9_readHolds x1 yb_N x2 s = some out) : Rn G RX9 cX9_readEach 3 none false (yb_rm (125 + n)) (yb_qv X out) 0 0 7 [some (.ref (yb_ad G 92)), some (.int x1), some (.int x2)] [] (yb_mk s X) := t_l_X9_readEach_7 H_X9_readAny H_X9_readEach H_X9_readHolds _ _ _ h
set_option maxHeartbeats 4000000 in
set_option maxRecDepth 20000 in
theorem t_X9_readEach {G : yb_G} {X : List (FieldType × Nat)} {r_X9_readAny : (Int32 → yb_S → Option yb_S)} {r_X9_readEach : (Int32 → yb_S → Option yb_S)} {r_X9_readHolds : (Int32 → yb_S → Option yb_S)} {n : Nat} {a1 : Int32} {s : yb_S} {out : yb_S} (H_X9_readAny : ∀ (a1 : Int32) (s : yb_S) (out : yb_S), r_X9_readAny a1 s = some out → Ct G yX9_readAny cX9_readAny 3 none (yb_rm (124 + n)) [.ref (yb_ad G 92), .int a1] (yb_mk s X) (yb_qv X out)) (H_X9_readEach : ∀ (a1 : Int32) (s : yb_S) (out : yb_S), r_X9_readEach a1 s = some out → Ct G yX9_readEach cX9_readEach 3 none (yb_rm (124 + n)) [.ref (yb_ad G 92), .int a1] (yb_mk s X) (yb_qv X out)) (H_X9_readHolds : ∀ (a1 : Int32) (s : yb_S) (out : yb_S), r_X9_readHolds a1 s = some out → Ct G yX9_readHolds cX9_readHolds 4 none (yb_rm (124 + n)) [.ref (yb_ad G 92), .int a1] (yb_mk s X) (yb_qv X out)) (h : f_X9_readEach r_X9_readAny r_X9_readEach r_X9_readHolds a1 s = some out) : Ct G yX9_readEach cX9_readEach 3 none (yb_rm (125 + n)) [.ref (yb_ad G 92), .int a1] (yb_mk s X) (yb_qv X out) := by
  refine Ct.of (own := RX9) (ini := false) (vs := [some (.ref (yb_ad G 92)), some (.int a1), none]) ⟨rfl, by decide +kernel⟩ (fun h => by cases h) (Nat.le_of_ble_eq_true rfl) rfl ?_
  unfold f_X9_readEach at h
  refine n_aload_n (i := 0) dX9_readEach_0 rfl rfl ?_
  refine n_iload_n (i := 1) dX9_readEach_1 rfl rfl ?_
  obtain ⟨q1, hq1, h⟩ := yb_bind h
  refine p_callVv (As := [.int a1]) (H_X9_readHolds a1 _ _ hq1) cv_X9_100 (sh_92 _ _) rfl rfl (Nat.le_of_ble_eq_true rfl) dX9_readEach_2 (yb_rok (by omega) (by decide)) ⟨rfl, rfl⟩ ⟨Nat.le_refl _, Nat.le_refl _⟩ (fun k2 => ?_)
  refine n_iconst (0 : Int32) dX9_readEach_5 ic_0 ?_
  refine n_istore_n (i := 2) (vs' := [some (.ref (yb_ad G 92)), some (.int a1), some (.int (0 : Int32))]) dX9_readEach_6 rfl (Nat.le_of_ble_eq_true rfl) rfl rfl ?_
  exact p_jump (tl_X9_readEach_7 H_X9_readAny H_X9_readEach H_X9_readHolds h) (And.intro rfl (And.intro rfl (And.intro rfl trivial)))
set_option maxHeartbeats 4000000 in
set_option maxRecDepth 20000 in
theorem tj_X9_readHolds_146 {G : yb_G} {X : List (FieldType × Nat)} {r_X9_readAny : (Int32 → yb_S → Option yb_S)} {r_X9_readEach : (Int32 → yb_S → Option yb_S)} {r_X9_readHolds : (Int32 → yb_S → Option yb_S)} {n : Nat} {x1 : Int32} {y0 : Int32} {s : yb_S} {out : yb_S} (H_X9_readAny : ∀ (a1 : Int32) (s : yb_S) (out : yb_S), r_X9_readAny a1 s = some out → Ct G yX9_readAny cX9_readAny 3 none (yb_rm (124 + n)) [.ref (yb_ad G 92), .int a1] (yb_mk s X) (yb_qv X out)) (H_X9_readEach : ∀ (a1 : Int32) (s : yb_S) (out : yb_S), r_X9_readEach a1 s = some out → Ct G yX9_readEach cX9_readEach 3 none (yb_rm (124 + n)) [.ref (yb_ad G 92), .int a1] (yb_mk s X) (yb_qv X out)) (H_X9_readHolds : ∀ (a1 : Int32) (s : yb_S) (out : yb_S), r_X9_readHolds a1 s = some out → Ct G yX9_readHolds cX9_readHolds 4 none (yb_rm (124 + n)) [.ref (yb_ad G 92), .int a1] (yb_mk s X) (yb_qv X out)) (h : j_X9_readHolds_146 r_X9_readAny r_X9_readEach r_X9_readHolds x1 y0 s = some out) : Rn G RX9 cX9_readHolds 4 none false (yb_rm (125 + n)) (yb_qv X out) 0 0 146 [some (.ref (yb_ad G 92)), some (.int x1), none, none] [.int y0] (yb_mk s X) := by
  unfold j_X9_readHolds_146 at h
  refine n_istore_n (i := 3) (vs' := [some (.ref (yb_ad G 92)), some (.int x1), none, some (.int y0)]) dX9_readHolds_146 rfl (Nat.le_of_ble_eq_true rfl) rfl rfl ?_
  refine n_aload_n (i := 0) dX9_readHolds_147 rfl rfl ?_
  refine n_iload_n (i := 3) dX9_readHolds_148 rfl rfl ?_
  obtain ⟨q19, hq19, h⟩ := yb_bind h
  refine p_callVv (As := [.int y0]) (t_X9_pass hq19) cv_X9_88 (sh_92 _ _) rfl rfl (Nat.le_of_ble_eq_true rfl) dX9_readHolds_149 (yb_rok (by omega) (by decide)) ⟨rfl, rfl⟩ ⟨Nat.le_refl _, Nat.le_refl _⟩ (fun k20 => ?_)
  refine n_aload_n (i := 0) dX9_readHolds_152 rfl rfl ?_
  refine n_iload_n (i := 1) dX9_readHolds_153 rfl rfl ?_
  obtain ⟨q21, hq21, h⟩ := yb_bind h
  refine p_callVv (As := [.int x1]) (tt_X9_readSum hq21) cv_X9_85 (sh_92 _ _) rfl rfl (Nat.le_of_ble_eq_true rfl) dX9_readHolds_154 (yb_rok (by omega) (by decide)) ⟨rfl, rfl⟩ ⟨Nat.le_refl _, Nat.le_refl _⟩ (fun k22 => ?_)
  refine n_aload_n (i := 0) dX9_readHolds_157 rfl rfl ?_
  refine n_iload_n (i := 3) dX9_readHolds_158 rfl rfl ?_
  obtain ⟨q23, hq23, h⟩ := yb_bind h
  refine p_callVv (As := [.int y0]) (t_X9_put hq23) cv_X9_97 (sh_92 _ _) rfl rfl (Nat.le_of_ble_eq_true rfl) dX9_readHolds_159 (yb_rok (by omega) (by decide)) ⟨rfl, rfl⟩ ⟨Nat.le_refl _, Nat.le_refl _⟩ (fun k24 => ?_)
  cases h
  exact n_vret dX9_readHolds_162 rfl (Nat.le_refl _) (Nat.le_refl _) ⟨rfl, rfl⟩
set_option maxHeartbeats 4000000 in
set_option maxRecDepth 20000 in
theorem tj_X9_readHolds_41 {G : yb_G} {X : List (FieldType × Nat)} {r_X9_readAny : (Int32 → yb_S → Option yb_S)} {r_X9_readEach : (Int32 → yb_S → Option yb_S)} {r_X9_readHolds : (Int32 → yb_S → Option yb_S)} {n : Nat} {x1 : Int32} {s : yb_S} {out : yb_S} (H_X9_readAny : ∀ (a1 : Int32) (s : yb_S) (out : yb_S), r_X9_readAny a1 s = some out → Ct G yX9_readAny cX9_readAny 3 none (yb_rm (124 + n)) [.ref (yb_ad G 92), .int a1] (yb_mk s X) (yb_qv X out)) (H_X9_readEach : ∀ (a1 : Int32) (s : yb_S) (out : yb_S), r_X9_readEach a1 s = some out → Ct G yX9_readEach cX9_readEach 3 none (yb_rm (124 + n)) [.ref (yb_ad G 92), .int a1] (yb_mk s X) (yb_qv X out)) (H_X9_readHolds : ∀ (a1 : Int32) (s : yb_S) (out : yb_S), r_X9_readHolds a1 s = some out → Ct G yX9_readHolds cX9_readHolds 4 none (yb_rm (124 + n)) [.ref (yb_ad G 92), .int a1] (yb_mk s X) (yb_qv X out)) (h : j_X9_readHolds_41 r_X9_readAny r_X9_readEach r_X9_readHolds x1 s = some out) : Rn G RX9 cX9_readHolds 4 none false (yb_rm (125 + n)) (yb_qv X out) 0 0 41 [some (.ref (yb_ad G 92)), some (.int x1), none, none] [] (yb_mk s X) := by
  unfold j_X9_readHolds_41 at h
  refine n_aload_n (i := 0) dX9_readHolds_41 rfl rfl ?_
  refine n_bipush (6 : Int32) dX9_readHolds_42 bp_6 ?_
  obtain ⟨q5, hq5, h⟩ := yb_bind h
  refine p_callVi (As := [.int (6 : Int32)]) (t_X9_isNext hq5) cv_X9_94 (sh_92 _ _) rfl rfl (Nat.le_of_ble_eq_true rfl) dX9_readHolds_44 (yb_rok (by omega) (by decide)) ⟨rfl, rfl⟩ ⟨Nat.le_refl _, Nat.le_refl _⟩ (fun k6 => ?_)
  refine n_if_eq 76 dX9_readHolds_47 (by decide) (fun c7 => ?_) (fun c7 => ?_)
  · have h := yb_ifp c7 h
    refine n_aload_n (i := 0) dX9_readHolds_76 rfl rfl ?_
    refine n_bipush (91 : Int32) dX9_readHolds_77 bp_91 ?_
    obtain ⟨q8, hq8, h⟩ := yb_bind h
    refine p_callVi (As := [.int (91 : Int32)]) (t_X9_isNext hq8) cv_X9_94 (sh_92 _ _) rfl rfl (Nat.le_of_ble_eq_true rfl) dX9_readHolds_79 (yb_rok (by omega) (by decide)) ⟨rfl, rfl⟩ ⟨Nat.le_refl _, Nat.le_refl _⟩ (fun k9 => ?_)
    refine n_if_eq 111 dX9_readHolds_82 (by decide) (fun c10 => ?_) (fun c10 => ?_)
    · have h := yb_ifp c10 h
      refine n_aload_n (i := 0) dX9_readHolds_111 rfl rfl ?_
      refine n_iload_n (i := 1) dX9_readHolds_112 rfl rfl ?_
      obtain ⟨q11, hq11, h⟩ := yb_bind h
      refine p_callVv (As := [.int x1]) (tt_X9_readSum hq11) cv_X9_85 (sh_92 _ _) rfl rfl (Nat.le_of_ble_eq_true rfl) dX9_readHolds_113 (yb_rok (by omega) (by decide)) ⟨rfl, rfl⟩ ⟨Nat.le_refl _, Nat.le_refl _⟩ (fun k12 => ?_)
      refine n_aload_n (i := 0) dX9_readHolds_116 rfl rfl ?_
      refine n_bipush (60 : Int32) dX9_readHolds_117 bp_60 ?_
      obtain ⟨q13, hq13, h⟩ := yb_bind h
      refine p_callVi (As := [.int (60 : Int32)]) (t_X9_isNext hq13) cv_X9_94 (sh_92 _ _) rfl rfl (Nat.le_of_ble_eq_true rfl) dX9_readHolds_119 (yb_rok (by omega) (by decide)) ⟨rfl, rfl⟩ ⟨Nat.le_refl _, Nat.le_refl _⟩ (fun k14 => ?_)
      refine n_if_eq 130 dX9_readHolds_122 (by decide) (fun c15 => ?_) (fun c15 => ?_)
      · have h := yb_ifp c15 h
        refine n_aload_n (i := 0) dX9_readHolds_130 rfl rfl ?_
        refine n_bipush (62 : Int32) dX9_readHolds_131 bp_62 ?_
        obtain ⟨q16, hq16, h⟩ := yb_bind h
        refine p_callVi (As := [.int (62 : Int32)]) (t_X9_isNext hq16) cv_X9_94 (sh_92 _ _) rfl rfl (Nat.le_of_ble_eq_true rfl) dX9_readHolds_133 (yb_rok (by omega) (by decide)) ⟨rfl, rfl⟩ ⟨Nat.le_refl _, Nat.le_refl _⟩ (fun k17 => ?_)
        refine n_if_eq 144 dX9_readHolds_136 (by decide) (fun c18 => ?_) (fun c18 => ?_)
        · have h := yb_ifp c18 h
          refine n_bipush (61 : Int32) dX9_readHolds_144 bp_61 ?_
          exact p_jump (tj_X9_readHolds_146 H_X9_readAny H_X9_readEach H_X9_readHolds h) (And.intro rfl (And.intro rfl trivial))
        · have h := yb_ifn c18 h
          refine n_bipush (62 : Int32) dX9_readHolds_139 bp_62 ?_
          refine n_goto 146 dX9_readHolds_141 (by decide) ?_
          exact p_jump (tj_X9_readHolds_146 H_X9_readAny H_X9_readEach H_X9_readHolds h) (And.intro rfl (And.intro rfl trivial))
      · have h := yb_ifn c15 h
        refine n_bipush (60 : Int32) dX9_readHolds_125 bp_60 ?_
        refine n_goto 146 dX9_readHolds_127 (by decide) ?_
        exact p_jump (tj_X9_readHolds_146 H_X9_readAny H_X9_readEach H_X9_readHolds h) (And.intro rfl (And.intro rfl trivial))
    · have h := yb_ifn c10 h
      refine n_aload_n (i := 0) dX9_readHolds_85 rfl rfl ?_
      refine n_dup dX9_readHolds_86 rfl ?_
      refine p_geti fl_X9_46 (sh_92 _ _) rfl dX9_readHolds_87 ?_
      refine n_iconst (1 : Int32) dX9_readHolds_90 ic_1 ?_
      refine n_iadd dX9_readHolds_91 ?_
      obtain ⟨s25, hs25, h⟩ := yb_bind h
      refine p_puti hs25 fp_X9_46 (sh_92 _ _) rfl rfl rfl dX9_readHolds_92 ?_
      refine n_aload_n (i := 0) dX9_readHolds_95 rfl rfl ?_
      refine n_iload_n (i := 1) dX9_readHolds_96 rfl rfl ?_
      refine n_iconst (1 : Int32) dX9_readHolds_97 ic_1 ?_
      refine n_iadd dX9_readHolds_98 ?_
      obtain ⟨q26, hq26, h⟩ := yb_bind h
      refine p_callVv (As := [.int (x1 + (1 : Int32))]) (H_X9_readAny (x1 + (1 : Int32)) _ _ hq26) cv_X9_81 (sh_92 _ _) rfl rfl (Nat.le_of_ble_eq_true rfl) dX9_readHolds_99 (yb_rok (by omega) (by decide)) ⟨rfl, rfl⟩ ⟨Nat.le_refl _, Nat.le_refl _⟩ (fun k27 => ?_)
      refine n_aload_n (i := 0) dX9_readHolds_102 rfl rfl ?_
      refine n_bipush (93 : Int32) dX9_readHolds_103 bp_93 ?_
      obtain ⟨q28, hq28, h⟩ := yb_bind h
      refine p_callVv (As := [.int (93 : Int32)]) (t_X9_pass hq28) cv_X9_88 (sh_92 _ _) rfl rfl (Nat.le_of_ble_eq_true rfl) dX9_readHolds_105 (yb_rok (by omega) (by decide)) ⟨rfl, rfl⟩ ⟨Nat.le_refl _, Nat.le_refl _⟩ (fun k29 => ?_)
      refine n_goto 162 dX9_readHolds_108 (by decide) ?_
      cases h
      exact n_vret dX9_readHolds_162 rfl (Nat.le_refl _) (Nat.le_refl _) ⟨rfl, rfl⟩
  · have h := yb_ifn c7 h
    refine n_aload_n (i := 0) dX9_readHolds_50 rfl rfl ?_
    refine n_dup dX9_readHolds_51 rfl ?_
    refine p_geti fl_X9_46 (sh_92 _ _) rfl dX9_readHolds_52 ?_
    refine n_iconst (1 : Int32) dX9_readHolds_55 ic_1 ?_
    refine n_iadd dX9_readHolds_56 ?_
    obtain ⟨s30, hs30, h⟩ := yb_bind h
    refine p_puti hs30 fp_X9_46 (sh_92 _ _) rfl rfl rfl dX9_readHolds_57 ?_
    refine n_aload_n (i := 0) dX9_readHolds_60 rfl rfl ?_
    refine n_iload_n (i := 1) dX9_readHolds_61 rfl rfl ?_
    refine n_iconst (1 : Int32) dX9_readHolds_62 ic_1 ?_
    refine n_iadd dX9_readHolds_63 ?_
    obtain ⟨q31, hq31, h⟩ := yb_bind h
    refine p_callVv (As := [.int (x1 + (1 : Int32))]) (H_X9_readHolds (x1 + (1 : Int32)) _ _ hq31) cv_X9_100 (sh_92 _ _) rfl rfl (Nat.le_of_ble_eq_true rfl) dX9_readHolds_64 (yb_rok (by omega) (by decide)) ⟨rfl, rfl⟩ ⟨Nat.le_refl _, Nat.le_refl _⟩ (fun k32 => ?_)
    refine n_aload_n (i := 0) dX9_readHolds_67 rfl rfl ?_
    refine n_bipush (22 : Int32) dX9_readHolds_68 bp_22 ?_
    obtain ⟨q33, hq33, h⟩ := yb_bind h
    refine p_callVv (As := [.int (22 : Int32)]) (t_X9_put hq33) cv_X9_97 (sh_92 _ _) rfl rfl (Nat.le_of_ble_eq_true rfl) dX9_readHolds_70 (yb_rok (by omega) (by decide)) ⟨rfl, rfl⟩ ⟨Nat.le_refl _, Nat.le_refl _⟩ (fun k34 => ?_)
    refine n_goto 162 dX9_readHolds_73 (by decide) ?_
    cases h
    exact n_vret dX9_readHolds_162 rfl (Nat.le_refl _) (Nat.le_refl _) ⟨rfl, rfl⟩
set_option maxHeartbeats 4000000 in
set_option maxRecDepth 20000 in
theorem tj_X9_readHolds_23 {G : yb_G} {X : List (FieldType × Nat)} {r_X9_readAny : (Int32 → yb_S → Option yb_S)} {r_X9_readEach : (Int32 → yb_S → Option yb_S)} {r_X9_readHolds : (Int32 → yb_S → Option yb_S)} {n : Nat} {x1 : Int32} {y0 : Int32} {s : yb_S} {out : yb_S} (H_X9_readAny : ∀ (a1 : Int32) (s : yb_S) (out : yb_S), r_X9_readAny a1 s = some out → Ct G yX9_readAny cX9_readAny 3 none (yb_rm (124 + n)) [.ref (yb_ad G 92), .int a1] (yb_mk s X) (yb_qv X out)) (H_X9_readEach : ∀ (a1 : Int32) (s : yb_S) (out : yb_S), r_X9_readEach a1 s = some out → Ct G yX9_readEach cX9_readEach 3 none (yb_rm (124 + n)) [.ref (yb_ad G 92), .int a1] (yb_mk s X) (yb_qv X out)) (H_X9_readHolds : ∀ (a1 : Int32) (s : yb_S) (out : yb_S), r_X9_readHolds a1 s = some out → Ct G yX9_readHolds cX9_readHolds 4 none (yb_rm (124 + n)) [.ref (yb_ad G 92), .int a1] (yb_mk s X) (yb_qv X out)) (h : j_X9_readHolds_23 r_X9_readAny r_X9_readEach r_X9_readHolds x1 y0 s = some out) : Rn G RX9 cX9_readHolds 4 none false (yb_rm (125 + n)) (yb_qv X out) 0 0 23 [some (.ref (yb_ad G 92)), some (.int x1), none, none] [.int y0] (yb_mk s X) := by
  unfold j_X9_readHolds_23 at h
  refine n_istore_n (i := 2) (vs' := [some (.ref (yb_ad G 92)), some (.int x1), some (.int y0), none]) dX9_readHolds_23 rfl (Nat.le_of_ble_eq_true rfl) rfl rfl ?_
  refine n_iload_n (i := 2) dX9_readHolds_24 rfl rfl ?_
  refine n_if_eq 41 dX9_readHolds_25 (by decide) (fun c4 => ?_) (fun c4 => ?_)
  · have h := yb_ifp c4 h
    exact p_jump (tj_X9_readHolds_41 H_X9_readAny H_X9_readEach H_X9_readHolds h) (And.intro rfl (And.intro rfl trivial))
  · have h := yb_ifn c4 h
    refine n_iload_n (i := 1) dX9_readHolds_28 rfl rfl ?_
    refine n_bipush (8 : Int32) dX9_readHolds_29 bp_8 ?_
    refine n_icmp_lt 41 dX9_readHolds_31 (by decide) (fun c35 => ?_) (fun c35 => ?_)
    · have h := yb_ifp c35 h
      exact p_jump (tj_X9_readHolds_41 H_X9_readAny H_X9_readEach H_X9_readHolds h) (And.intro rfl (And.intro rfl trivial))
    · have h := yb_ifn c35 h
      refine n_aload_n (i := 0) dX9_readHolds_34 rfl rfl ?_
      obtain ⟨q36, hq36, h⟩ := yb_bind h
      refine p_callVv (As := []) (t_X9_fail hq36) cv_X9_103 (sh_92 _ _) rfl rfl (Nat.le_of_ble_eq_true rfl) dX9_readHolds_35 (yb_rok (by omega) (by decide)) ⟨rfl, rfl⟩ ⟨Nat.le_refl _, Nat.le_refl _⟩ (fun k37 => ?_)
      refine n_goto 162 dX9_readHolds_38 (by decide) ?_
      cases h
      exact n_vret dX9_readHolds_162 rfl (Nat.le_refl _) (Nat.le_refl _) ⟨rfl, rfl⟩
set_option maxHeartbeats 4000000 in
set_option maxRecDepth 20000 in
theorem tj_X9_readHolds_18 {G : yb_G} {X : List (FieldType × Nat)} {r_X9_readAny : (Int32 → yb_S → Option yb_S)} {r_X9_readEach : (Int32 → yb_S → Option yb_S)} {r_X9_readHolds : (Int32 → yb_S → Option yb_S)} {n : Nat} {x1 : Int32} {s : yb_S} {out : yb_S} (H_X9_readAny : ∀ (a1 : Int32) (s : yb_S) (out : yb_S), r_X9_readAny a1 s = some out → Ct G yX9_readAny cX9_readAny 3 none (yb_rm (124 + n)) [.ref (yb_ad G 92), .int a1] (yb_mk s X) (yb_qv X out)) (H_X9_readEach : ∀ (a1 : Int32) (s : yb_S) (out : yb_S), r_X9_readEach a1 s = some out → Ct G yX9_readEach cX9_readEach 3 none (yb_rm (124 + n)) [.ref (yb_ad G 92), .int a1] (yb_mk s X) (yb_qv X out)) (H_X9_readHolds : ∀ (a1 : Int32) (s : yb_S) (out : yb_S), r_X9_readHolds a1 s = some out → Ct G yX9_readHolds cX9_readHolds 4 none (yb_rm (124 + n)) [.ref (yb_ad G 92), .int a1] (yb_mk s X) (yb_qv X out)) (h : j_X9_readHolds_18 r_X9_readAny r_X9_readEach r_X9_readHolds x1 s = some out) : Rn G RX9 cX9_readHolds 4 none false (yb_rm (125 + n)) (yb_qv X out) 0 0 18 [some (.ref (yb_ad G 92)), some (.int x1), none, none] [] (yb_mk s X) := by
  unfold j_X9_readHolds_18 at h
  refine n_iconst (1 : Int32) dX9_readHolds_18 ic_1 ?_
  refine n_goto 23 dX9_readHolds_19 (by decide) ?_
  exact p_jump (tj_X9_readHolds_23 H_X9_readAny H_X9_readEach H_X9_readHolds h) (And.intro rfl (And.intro rfl trivial))
set_option maxHeartbeats 4000000 in
set_option maxRecDepth 20000 in
theorem t_X9_readHolds {G : yb_G} {X : List (FieldType × Nat)} {r_X9_readAny : (Int32 → yb_S → Option yb_S)} {r_X9_readEach : (Int32 → yb_S → Option yb_S)} {r_X9_readHolds : (Int32 → yb_S → Option yb_S)} {n : Nat} {a1 : Int32} {s : yb_S} {out : yb_S} (H_X9_readAny : ∀ (a1 : Int32) (s : yb_S) (out : yb_S), r_X9_readAny a1 s = some out → Ct G yX9_readAny cX9_readAny 3 none (yb_rm (124 + n)) [.ref (yb_ad G 92), .int a1] (yb_mk s X) (yb_qv X out)) (H_X9_readEach : ∀ (a1 : Int32) (s : yb_S) (out : yb_S), r_X9_readEach a1 s = some out → Ct G yX9_readEach cX9_readEach 3 none (yb_rm (124 + n)) [.ref (yb_ad G 92), .int a1] (yb_mk s X) (yb_qv X out)) (H_X9_readHolds : ∀ (a1 : Int32) (s : yb_S) (out : yb_S), r_X9_readHolds a1 s = some out → Ct G yX9_readHolds cX9_readHolds 4 none (yb_rm (124 + n)) [.ref (yb_ad G 92), .int a1] (yb_mk s X) (yb_qv X out)) (h : f_X9_readHolds r_X9_readAny r_X9_readEach r_X9_readHolds a1 s = some out) : Ct G yX9_readHolds cX9_readHolds 4 none (yb_rm (125 + n)) [.ref (yb_ad G 92), .int a1] (yb_mk s X) (yb_qv X out) := by
  refine Ct.of (own := RX9) (ini := false) (vs := [some (.ref (yb_ad G 92)), some (.int a1), none, none]) ⟨rfl, by decide +kernel⟩ (fun h => by cases h) (Nat.le_of_ble_eq_true rfl) rfl ?_
  unfold f_X9_readHolds at h
  refine n_aload_n (i := 0) dX9_readHolds_0 rfl rfl ?_
  refine n_bipush (6 : Int32) dX9_readHolds_1 bp_6 ?_
  obtain ⟨q1, hq1, h⟩ := yb_bind h
  refine p_callVi (As := [.int (6 : Int32)]) (t_X9_isNext hq1) cv_X9_94 (sh_92 _ _) rfl rfl (Nat.le_of_ble_eq_true rfl) dX9_readHolds_3 (yb_rok (by omega) (by decide)) ⟨rfl, rfl⟩ ⟨Nat.le_refl _, Nat.le_refl _⟩ (fun k2 => ?_)
  refine n_if_ne 18 dX9_readHolds_6 (by decide) (fun c3 => ?_) (fun c3 => ?_)
  · have h := yb_ifn c3 h
    exact p_jump (tj_X9_readHolds_18 H_X9_readAny H_X9_readEach H_X9_readHolds h) (And.intro rfl (And.intro rfl trivial))
  · have h := yb_ifp c3 h
    refine n_aload_n (i := 0) dX9_readHolds_9 rfl rfl ?_
    refine n_bipush (91 : Int32) dX9_readHolds_10 bp_91 ?_
    obtain ⟨q38, hq38, h⟩ := yb_bind h
    refine p_callVi (As := [.int (91 : Int32)]) (t_X9_isNext hq38) cv_X9_94 (sh_92 _ _) rfl rfl (Nat.le_of_ble_eq_true rfl) dX9_readHolds_12 (yb_rok (by omega) (by decide)) ⟨rfl, rfl⟩ ⟨Nat.le_refl _, Nat.le_refl _⟩ (fun k39 => ?_)
    refine n_if_eq 22 dX9_readHolds_15 (by decide) (fun c40 => ?_) (fun c40 => ?_)
    · have h := yb_ifp c40 h
      refine n_iconst (0 : Int32) dX9_readHolds_22 ic_0 ?_
      exact p_jump (tj_X9_readHolds_23 H_X9_readAny H_X9_readEach H_X9_readHolds h) (And.intro rfl (And.intro rfl trivial))
    · have h := yb_ifn c40 h
      exact p_jump (tj_X9_readHolds_18 H_X9_readAny H_X9_readEach H_X9_readHolds h) (And.intro rfl (And.intro rfl trivial))
set_option maxHeartbeats 4000000 in
set_option maxRecDepth 20000 in
theorem tg_X9_readAny (G : yb_G) (X : List (FieldType × Nat)) : ∀ n : Nat, (∀ (a1 : Int32) (s : yb_S) (out : yb_S), (gg_X9_readAny n).1 a1 s = some out → Ct G yX9_readAny cX9_readAny 3 none (yb_rm (124 + n)) [.ref (yb_ad G 92), .int a1] (yb_mk s X) (yb_qv X out)) ∧ (∀ (a1 : Int32) (s : yb_S) (out : yb_S), (gg_X9_readAny n).2.1 a1 s = some out → Ct G yX9_readEach cX9_readEach 3 none (yb_rm (124 + n)) [.ref (yb_ad G 92), .int a1] (yb_mk s X) (yb_qv X out)) ∧ (∀ (a1 : Int32) (s : yb_S) (out : yb_S), (gg_X9_readAny n).2.2 a1 s = some out → Ct G yX9_readHolds cX9_readHolds 4 none (yb_rm (124 + n)) [.ref (yb_ad G 92), .int a1] (yb_mk s X) (yb_qv X out)) := by
  intro n
  induction n with
  | zero => exact ⟨(fun _ _ _ h => by cases h), (fun _ _ _ h => by cases h), (fun _ _ _ h => by cases h)⟩
  | succ n ih =>
    obtain ⟨h0, h1, h2⟩ := ih
    rw [show 124 + (n + 1) = 125 + n from by omega]
    exact ⟨(fun a1 s out h => t_X9_readAny h0 h1 h2 h), (fun a1 s out h => t_X9_readEach h0 h1 h2 h), (fun a1 s out h => t_X9_readHolds h0 h1 h2 h)⟩
set_option maxHeartbeats 4000000 in
set_option maxRecDepth 20000 in
theorem tt_X9_readAny {G : yb_G} {X : List (FieldType × Nat)} {a1 : Int32} {s : yb_S} {out : yb_S} (h : g_X9_readAny a1 s = some out) : Ct G yX9_readAny cX9_readAny 3 none (yb_rm 244) [.ref (yb_ad G 92), .int a1] (yb_mk s X) (yb_qv X out) := (tg_X9_readAny G X 120).1 a1 s out h
set_option maxHeartbeats 4000000 in
set_option maxRecDepth 20000 in
theorem tt_X9_readEach {G : yb_G} {X : List (FieldType × Nat)} {a1 : Int32} {s : yb_S} {out : yb_S} (h : g_X9_readEach a1 s = some out) : Ct G yX9_readEach cX9_readEach 3 none (yb_rm 244) [.ref (yb_ad G 92), .int a1] (yb_mk s X) (yb_qv X out) := (tg_X9_readAny G X 120).2.1 a1 s out h
set_option maxHeartbeats 4000000 in
set_option maxRecDepth 20000 in
theorem tt_X9_readHolds {G : yb_G} {X : List (FieldType × Nat)} {a1 : Int32} {s : yb_S} {out : yb_S} (h : g_X9_readHolds a1 s = some out) : Ct G yX9_readHolds cX9_readHolds 4 none (yb_rm 244) [.ref (yb_ad G 92), .int a1] (yb_mk s X) (yb_qv X out) := (tg_X9_readAny G X 120).2.2 a1 s out h
set_option maxHeartbeats 4000000 in
set_option maxRecDepth 20000 in
theorem tj_X9_readClause_43 {G : yb_G} {X : List (FieldType × Nat)} {s : yb_S} {out : yb_S} (h : j_X9_readClause_43 s = some out) : Rn G RX9 cX9_readClause 2 none false (yb_rm 245) (yb_qv X out) 0 0 43 [some (.ref (yb_ad G 92)), none] [] (yb_mk s X) := by
  unfold j_X9_readClause_43 at h
  refine n_aload_n (i := 0) dX9_readClause_43 rfl rfl ?_
  refine n_aload_n (i := 0) dX9_readClause_44 rfl rfl ?_
  refine p_getr fl_X9_30 (sh_92 _ _) rfl (rR_92_9 _ _) dX9_readClause_45 ?_
  refine n_aload_n (i := 0) dX9_readClause_48 rfl rfl ?_
  refine p_geti fl_X9_46 (sh_92 _ _) rfl dX9_readClause_49 ?_
  obtain ⟨v4, hv4, h⟩ := yb_bind h
  refine p_iald hv4 (sh_99 _ _) dX9_readClause_52 ?_
  obtain ⟨s5, hs5, h⟩ := yb_bind h
  refine p_puti hs5 fp_X9_40 (sh_92 _ _) rfl rfl rfl dX9_readClause_53 ?_
  cases h
  exact n_vret dX9_readClause_56 rfl (Nat.le_refl _) (Nat.le_refl _) ⟨rfl, rfl⟩
set_option maxHeartbeats 4000000 in
set_option maxRecDepth 20000 in
theorem tj_X9_readClause_100 {G : yb_G} {X : List (FieldType × Nat)} {x1 : Int32} {s : yb_S} {out : yb_S} (h : j_X9_readClause_100 x1 s = some out) : Rn G RX9 cX9_readClause 2 none false (yb_rm 245) (yb_qv X out) 0 0 100 [some (.ref (yb_ad G 92)), some (.int x1)] [] (yb_mk s X) := by
  unfold j_X9_readClause_100 at h
  refine n_aload_n (i := 0) dX9_readClause_100 rfl rfl ?_
  refine p_getr fl_X9_18 (sh_92 _ _) rfl (rR_92_5 _ _) dX9_readClause_101 ?_
  refine n_iload_n (i := 1) dX9_readClause_104 rfl rfl ?_
  refine n_aload_n (i := 0) dX9_readClause_105 rfl rfl ?_
  refine p_geti fl_X9_43 (sh_92 _ _) rfl dX9_readClause_106 ?_
  obtain ⟨s15, hs15, h⟩ := yb_bind h
  refine p_iast hs15 (sh_95 _ _) dX9_readClause_109 ?_
  refine n_aload_n (i := 0) dX9_readClause_110 rfl rfl ?_
  refine n_bipush (59 : Int32) dX9_readClause_111 bp_59 ?_
  obtain ⟨q16, hq16, h⟩ := yb_bind h
  refine p_callVv (As := [.int (59 : Int32)]) (t_X9_pass hq16) cv_X9_88 (sh_92 _ _) rfl rfl (Nat.le_of_ble_eq_true rfl) dX9_readClause_113 (yb_rok (Nat.le_of_ble_eq_true rfl) (by decide)) ⟨rfl, rfl⟩ ⟨Nat.le_refl _, Nat.le_refl _⟩ (fun k17 => ?_)
  cases h
  exact n_vret dX9_readClause_116 rfl (Nat.le_refl _) (Nat.le_refl _) ⟨rfl, rfl⟩
set_option maxHeartbeats 4000000 in
set_option maxRecDepth 20000 in
theorem tj_X9_readClause_87 {G : yb_G} {X : List (FieldType × Nat)} {x1 : Int32} {s : yb_S} {out : yb_S} (h : j_X9_readClause_87 x1 s = some out) : Rn G RX9 cX9_readClause 2 none false (yb_rm 245) (yb_qv X out) 0 0 87 [some (.ref (yb_ad G 92)), some (.int x1)] [] (yb_mk s X) := by
  unfold j_X9_readClause_87 at h
  refine n_aload_n (i := 0) dX9_readClause_87 rfl rfl ?_
  refine n_iconst (0 : Int32) dX9_readClause_88 ic_0 ?_
  obtain ⟨q13, hq13, h⟩ := yb_bind h
  refine p_callVv (As := [.int (0 : Int32)]) (tt_X9_readAny hq13) cv_X9_81 (sh_92 _ _) rfl rfl (Nat.le_of_ble_eq_true rfl) dX9_readClause_89 (yb_rok (Nat.le_of_ble_eq_true rfl) (by decide)) ⟨rfl, rfl⟩ ⟨Nat.le_refl _, Nat.le_refl _⟩ (fun k14 => ?_)
  refine n_goto 100 dX9_readClause_92 (by decide) ?_
  exact p_jump (tj_X9_readClause_100 h) (And.intro rfl (And.intro rfl trivial))
set_option maxHeartbeats 4000000 in
set_option maxRecDepth 20000 in
theorem t_X9_readClause {G : yb_G} {X : List (FieldType × Nat)} {s : yb_S} {out : yb_S} (h : f_X9_readClause s = some out) : Ct G yX9_readClause cX9_readClause 2 none (yb_rm 245) [.ref (yb_ad G 92)] (yb_mk s X) (yb_qv X out) := by
  refine Ct.of (own := RX9) (ini := false) (vs := [some (.ref (yb_ad G 92)), none]) ⟨rfl, by decide +kernel⟩ (fun h => by cases h) (Nat.le_of_ble_eq_true rfl) rfl ?_
  unfold f_X9_readClause at h
  refine n_aload_n (i := 0) dX9_readClause_0 rfl rfl ?_
  refine p_getr fl_X9_27 (sh_92 _ _) rfl (rR_92_8 _ _) dX9_readClause_1 ?_
  refine n_aload_n (i := 0) dX9_readClause_4 rfl rfl ?_
  refine p_geti fl_X9_46 (sh_92 _ _) rfl dX9_readClause_5 ?_
  obtain ⟨v1, hv1, h⟩ := yb_bind h
  refine p_iald hv1 (sh_98 _ _) dX9_readClause_8 ?_
  refine n_istore_n (i := 1) (vs' := [some (.ref (yb_ad G 92)), some (.int v1)]) dX9_readClause_9 rfl (Nat.le_of_ble_eq_true rfl) rfl rfl ?_
  refine n_aload_n (i := 0) dX9_readClause_10 rfl rfl ?_
  refine p_getr fl_X9_24 (sh_92 _ _) rfl (rR_92_7 _ _) dX9_readClause_11 ?_
  refine n_aload_n (i := 0) dX9_readClause_14 rfl rfl ?_
  refine p_geti fl_X9_46 (sh_92 _ _) rfl dX9_readClause_15 ?_
  obtain ⟨v2, hv2, h⟩ := yb_bind h
  refine p_iald hv2 (sh_97 _ _) dX9_readClause_18 ?_
  refine n_iconst (3 : Int32) dX9_readClause_19 ic_3 ?_
  refine n_icmp_ne 43 dX9_readClause_20 (by decide) (fun c3 => ?_) (fun c3 => ?_)
  · have h := yb_ifn c3 h
    exact p_jump (tj_X9_readClause_43 h) (And.intro rfl trivial)
  · have h := yb_ifp c3 h
    refine n_iload_n (i := 1) dX9_readClause_23 rfl rfl ?_
    refine n_if_lt 43 dX9_readClause_24 (by decide) (fun c6 => ?_) (fun c6 => ?_)
    · have h := yb_ifp c6 h
      exact p_jump (tj_X9_readClause_43 h) (And.intro rfl trivial)
    · have h := yb_ifn c6 h
      refine n_iload_n (i := 1) dX9_readClause_27 rfl rfl ?_
      refine n_bipush (6 : Int32) dX9_readClause_28 bp_6 ?_
      refine n_icmp_ge 43 dX9_readClause_30 (by decide) (fun c7 => ?_) (fun c7 => ?_)
      · have h := yb_ifp c7 h
        exact p_jump (tj_X9_readClause_43 h) (And.intro rfl trivial)
      · have h := yb_ifn c7 h
        refine n_aload_n (i := 0) dX9_readClause_33 rfl rfl ?_
        refine p_getr fl_X9_15 (sh_92 _ _) rfl (rR_92_4 _ _) dX9_readClause_34 ?_
        refine n_iload_n (i := 1) dX9_readClause_37 rfl rfl ?_
        obtain ⟨v8, hv8, h⟩ := yb_bind h
        refine p_iald hv8 (sh_94 _ _) dX9_readClause_38 ?_
        refine n_iconst (-1 : Int32) dX9_readClause_39 ic_m1 ?_
        refine n_icmp_eq 57 dX9_readClause_40 (by decide) (fun c9 => ?_) (fun c9 => ?_)
        · have h := yb_ifp c9 h
          refine n_aload_n (i := 0) dX9_readClause_57 rfl rfl ?_
          refine p_getr fl_X9_15 (sh_92 _ _) rfl (rR_92_4 _ _) dX9_readClause_58 ?_
          refine n_iload_n (i := 1) dX9_readClause_61 rfl rfl ?_
          refine n_aload_n (i := 0) dX9_readClause_62 rfl rfl ?_
          refine p_geti fl_X9_43 (sh_92 _ _) rfl dX9_readClause_63 ?_
          obtain ⟨s10, hs10, h⟩ := yb_bind h
          refine p_iast hs10 (sh_94 _ _) dX9_readClause_66 ?_
          refine n_aload_n (i := 0) dX9_readClause_67 rfl rfl ?_
          refine n_dup dX9_readClause_68 rfl ?_
          refine p_geti fl_X9_46 (sh_92 _ _) rfl dX9_readClause_69 ?_
          refine n_iconst (1 : Int32) dX9_readClause_72 ic_1 ?_
          refine n_iadd dX9_readClause_73 ?_
          obtain ⟨s11, hs11, h⟩ := yb_bind h
          refine p_puti hs11 fp_X9_46 (sh_92 _ _) rfl rfl rfl dX9_readClause_74 ?_
          refine n_iload_n (i := 1) dX9_readClause_77 rfl rfl ?_
          refine n_iconst (4 : Int32) dX9_readClause_78 ic_4 ?_
          refine n_icmp_eq 87 dX9_readClause_79 (by decide) (fun c12 => ?_) (fun c12 => ?_)
          · have h := yb_ifp c12 h
            exact p_jump (tj_X9_readClause_87 h) (And.intro rfl (And.intro rfl trivial))
          · have h := yb_ifn c12 h
            refine n_iload_n (i := 1) dX9_readClause_82 rfl rfl ?_
            refine n_iconst (5 : Int32) dX9_readClause_83 ic_5 ?_
            refine n_icmp_ne 95 dX9_readClause_84 (by decide) (fun c18 => ?_) (fun c18 => ?_)
            · have h := yb_ifn c18 h
              refine n_aload_n (i := 0) dX9_readClause_95 rfl rfl ?_
              refine n_iconst (0 : Int32) dX9_readClause_96 ic_0 ?_
              obtain ⟨q19, hq19, h⟩ := yb_bind h
              refine p_callVv (As := [.int (0 : Int32)]) (tt_X9_readSum hq19) cv_X9_85 (sh_92 _ _) rfl rfl (Nat.le_of_ble_eq_true rfl) dX9_readClause_97 (yb_rok (Nat.le_of_ble_eq_true rfl) (by decide)) ⟨rfl, rfl⟩ ⟨Nat.le_refl _, Nat.le_refl _⟩ (fun k20 => ?_)
              exact p_jump (tj_X9_readClause_100 h) (And.intro rfl (And.intro rfl trivial))
            · have h := yb_ifp c18 h
              exact p_jump (tj_X9_readClause_87 h) (And.intro rfl (And.intro rfl trivial))
        · have h := yb_ifn c9 h
          exact p_jump (tj_X9_readClause_43 h) (And.intro rfl trivial)
set_option maxHeartbeats 4000000 in
set_option maxRecDepth 20000 in
theorem t_l_X9_parse_49 {G : yb_G} {X : List (FieldType × Nat)} {out : yb_S} : ∀ (k0 : Nat) (x1 : Int32) (s : yb_S), l_X9_parse_49 k0 x1 s = some out → Rn G RX9 cX9_parse 2 none false (yb_rm 246) (yb_qv X out) 0 0 49 [some (.ref (yb_ad G 92)), some (.int x1)] [] (yb_mk s X) := by
  intro k0
  induction k0 with
  | zero => intro x1 s h; cases h
  | succ k0 ih =>
    intro x1 s h
    have h : f_X9_parse_49 (fun x1 s => l_X9_parse_49 k0 x1 s) x1 s = some out := h
    have hrc49 := ih
    unfold f_X9_parse_49 at h
    refine n_iload_n (i := 1) dX9_parse_49 rfl rfl ?_
    refine n_bipush (6 : Int32) dX9_parse_50 bp_6 ?_
    refine n_icmp_gt 85 dX9_parse_52 (by decide) (fun c7 => ?_) (fun c7 => ?_)
    · have h := yb_ifp c7 h
      cases h
      exact n_vret dX9_parse_85 rfl (Nat.le_refl _) (Nat.le_refl _) ⟨rfl, rfl⟩
    · have h := yb_ifn c7 h
      refine n_aload_n (i := 0) dX9_parse_55 rfl rfl ?_
      refine p_geti fl_X9_40 (sh_92 _ _) rfl dX9_parse_56 ?_
      refine n_iconst (-1 : Int32) dX9_parse_59 ic_m1 ?_
      refine n_icmp_ne 85 dX9_parse_60 (by decide) (fun c8 => ?_) (fun c8 => ?_)
      · have h := yb_ifn c8 h
        cases h
        exact n_vret dX9_parse_85 rfl (Nat.le_refl _) (Nat.le_refl _) ⟨rfl, rfl⟩
      · have h := yb_ifp c8 h
        refine n_aload_n (i := 0) dX9_parse_63 rfl rfl ?_
        refine p_getr fl_X9_24 (sh_92 _ _) rfl (rR_92_7 _ _) dX9_parse_64 ?_
        refine n_aload_n (i := 0) dX9_parse_67 rfl rfl ?_
        refine p_geti fl_X9_46 (sh_92 _ _) rfl dX9_parse_68 ?_
        obtain ⟨v9, hv9, h⟩ := yb_bind h
        refine p_iald hv9 (sh_97 _ _) dX9_parse_71 ?_
        refine n_if_eq 85 dX9_parse_72 (by decide) (fun c10 => ?_) (fun c10 => ?_)
        · have h := yb_ifp c10 h
          cases h
          exact n_vret dX9_parse_85 rfl (Nat.le_refl _) (Nat.le_refl _) ⟨rfl, rfl⟩
        · have h := yb_ifn c10 h
          refine n_aload_n (i := 0) dX9_parse_75 rfl rfl ?_
          obtain ⟨q11, hq11, h⟩ := yb_bind h
          refine p_callVv (As := []) (t_X9_readClause hq11) cv_X9_49 (sh_92 _ _) rfl rfl (Nat.le_of_ble_eq_true rfl) dX9_parse_76 (yb_rok (Nat.le_of_ble_eq_true rfl) (by decide)) ⟨rfl, rfl⟩ ⟨Nat.le_refl _, Nat.le_refl _⟩ (fun k12 => ?_)
          refine n_iinc (vs' := [some (.ref (yb_ad G 92)), some (.int (x1 + (1 : Int32)))]) dX9_parse_79 rfl (ii_1 _) (Nat.le_of_ble_eq_true rfl) rfl rfl ?_
          refine n_goto 49 dX9_parse_82 (by decide) ?_
          exact p_jump (hrc49 (x1 + (1 : Int32)) q11 h) (And.intro rfl (And.intro rfl trivial))
set_option maxHeartbeats 4000000 in
set_option maxRecDepth 20000 in
theorem tl_X9_parse_49 {G : yb_G} {X : List (FieldType × Nat)} {out : yb_S} {x1 : Int32} {s : yb_S} (h : l_X9_parse_49 yb_N x1 s = some out) : Rn G RX9 cX9_parse 2 none false (yb_rm 246) (yb_qv X out) 0 0 49 [some (.ref (yb_ad G 92)), some (.int x1)] [] (yb_mk s X) := t_l_X9_parse_49 _ _ _ h
set_option maxHeartbeats 4000000 in
set_option maxRecDepth 20000 in
theorem t_l_X9_parse_21 {G : yb_G} {X : List (FieldType × Nat)} {out : yb_S} : ∀ (k0 : Nat) (x1 : Int32) (s : yb_S), l_X9_parse_21 k0 x1 s = some out → Rn G RX9 cX9_parse 2 none false (yb_rm 246) (yb_qv X out) 0 0 21 [some (.ref (yb_ad G 92)), some (.int x1)] [] (yb_mk s X) := by
  intro k0
  induction k0 with
  | zero => intro x1 s h; cases h
  | succ k0 ih =>
    intro x1 s h
    have h : f_X9_parse_21 (fun x1 s => l_X9_parse_21 k0 x1 s) x1 s = some out := h
    have hrc21 := ih
    unfold f_X9_parse_21 at h
    refine n_iload_n (i := 1) dX9_parse_21 rfl rfl ?_
    refine n_bipush (6 : Int32) dX9_parse_22 bp_6 ?_
    refine n_icmp_ge 47 dX9_parse_24 (by decide) (fun c6 => ?_) (fun c6 => ?_)
    · have h := yb_ifp c6 h
      refine n_iconst (0 : Int32) dX9_parse_47 ic_0 ?_
      refine n_istore_n (i := 1) (vs' := [some (.ref (yb_ad G 92)), some (.int (0 : Int32))]) dX9_parse_48 rfl (Nat.le_of_ble_eq_true rfl) rfl rfl ?_
      exact p_jump (tl_X9_parse_49 h) (And.intro rfl (And.intro rfl trivial))
    · have h := yb_ifn c6 h
      refine n_aload_n (i := 0) dX9_parse_27 rfl rfl ?_
      refine p_getr fl_X9_15 (sh_92 _ _) rfl (rR_92_4 _ _) dX9_parse_28 ?_
      refine n_iload_n (i := 1) dX9_parse_31 rfl rfl ?_
      refine n_iconst (-1 : Int32) dX9_parse_32 ic_m1 ?_
      obtain ⟨s13, hs13, h⟩ := yb_bind h
      refine p_iast hs13 (sh_94 _ _) dX9_parse_33 ?_
      refine n_aload_n (i := 0) dX9_parse_34 rfl rfl ?_
      refine p_getr fl_X9_18 (sh_92 _ _) rfl (rR_92_5 _ _) dX9_parse_35 ?_
      refine n_iload_n (i := 1) dX9_parse_38 rfl rfl ?_
      refine n_iconst (-1 : Int32) dX9_parse_39 ic_m1 ?_
      obtain ⟨s14, hs14, h⟩ := yb_bind h
      refine p_iast hs14 (sh_95 _ _) dX9_parse_40 ?_
      refine n_iinc (vs' := [some (.ref (yb_ad G 92)), some (.int (x1 + (1 : Int32)))]) dX9_parse_41 rfl (ii_1 _) (Nat.le_of_ble_eq_true rfl) rfl rfl ?_
      refine n_goto 21 dX9_parse_44 (by decide) ?_
      exact p_jump (hrc21 (x1 + (1 : Int32)) s14 h) (And.intro rfl (And.intro rfl trivial))
set_option maxHeartbeats 4000000 in
set_option maxRecDepth 20000 in
theorem tl_X9_parse_21 {G : yb_G} {X : List (FieldType × Nat)} {out : yb_S} {x1 : Int32} {s : yb_S} (h : l_X9_parse_21 yb_N x1 s = some out) : Rn G RX9 cX9_parse 2 none false (yb_rm 246) (yb_qv X out) 0 0 21 [some (.ref (yb_ad G 92)), some (.int x1)] [] (yb_mk s X) := t_l_X9_parse_21 _ _ _ h
set_option maxHeartbeats 4000000 in
set_option maxRecDepth 20000 in
theorem t_X9_parse {G : yb_G} {X : List (FieldType × Nat)} {s : yb_S} {out : yb_S} (h : f_X9_parse s = some out) : Ct G yX9_parse cX9_parse 2 none (yb_rm 246) [.ref (yb_ad G 92)] (yb_mk s X) (yb_qv X out) := by
  refine Ct.of (own := RX9) (ini := false) (vs := [some (.ref (yb_ad G 92)), none]) ⟨rfl, by decide +kernel⟩ (fun h => by cases h) (Nat.le_of_ble_eq_true rfl) rfl ?_
  unfold f_X9_parse at h
  refine n_aload_n (i := 0) dX9_parse_0 rfl rfl ?_
  obtain ⟨q1, hq1, h⟩ := yb_bind h
  refine p_callVv (As := []) (t_X9_splitTokens hq1) cv_X9_37 (sh_92 _ _) rfl rfl (Nat.le_of_ble_eq_true rfl) dX9_parse_1 (yb_rok (Nat.le_of_ble_eq_true rfl) (by decide)) ⟨rfl, rfl⟩ ⟨Nat.le_refl _, Nat.le_refl _⟩ (fun k2 => ?_)
  refine n_aload_n (i := 0) dX9_parse_4 rfl rfl ?_
  refine n_iconst (-1 : Int32) dX9_parse_5 ic_m1 ?_
  obtain ⟨s3, hs3, h⟩ := yb_bind h
  refine p_puti hs3 fp_X9_40 (sh_92 _ _) rfl rfl rfl dX9_parse_6 ?_
  refine n_aload_n (i := 0) dX9_parse_9 rfl rfl ?_
  refine n_iconst (0 : Int32) dX9_parse_10 ic_0 ?_
  obtain ⟨s4, hs4, h⟩ := yb_bind h
  refine p_puti hs4 fp_X9_43 (sh_92 _ _) rfl rfl rfl dX9_parse_11 ?_
  refine n_aload_n (i := 0) dX9_parse_14 rfl rfl ?_
  refine n_iconst (0 : Int32) dX9_parse_15 ic_0 ?_
  obtain ⟨s5, hs5, h⟩ := yb_bind h
  refine p_puti hs5 fp_X9_46 (sh_92 _ _) rfl rfl rfl dX9_parse_16 ?_
  refine n_iconst (0 : Int32) dX9_parse_19 ic_0 ?_
  refine n_istore_n (i := 1) (vs' := [some (.ref (yb_ad G 92)), some (.int (0 : Int32))]) dX9_parse_20 rfl (Nat.le_of_ble_eq_true rfl) rfl rfl ?_
  exact p_jump (tl_X9_parse_21 h) (And.intro rfl (And.intro rfl trivial))
set_option maxHeartbeats 4000000 in
set_option maxRecDepth 20000 in
theorem t_X11_fault {G : yb_G} {X : List (FieldType × Nat)} {s : yb_S} {out : (Int32 × yb_S)} (h : f_X11_fault s = some out) : Ct G yX11_fault cX11_fault 1 (Option.some .int) (yb_rm 247) [.ref (yb_ad G 0)] (yb_mk s X) (yb_qi X out.2 out.1) := by
  refine Ct.of (own := RX11) (ini := false) (vs := [some (.ref (yb_ad G 0))]) ⟨rfl, by decide +kernel⟩ (fun h => by cases h) (Nat.le_of_ble_eq_true rfl) rfl ?_
  unfold f_X11_fault at h
  refine n_aload_n (i := 0) dX11_fault_0 rfl rfl ?_
  refine p_getr fl_X11_19 (sh_0 _ _) rfl (rR_0_1 _ _) dX11_fault_1 ?_
  obtain ⟨q1, hq1, h⟩ := yb_bind h
  refine p_callVv (As := []) (t_X9_parse hq1) cv_X11_191 (sh_92 _ _) rfl rfl (Nat.le_of_ble_eq_true rfl) dX11_fault_4 (yb_rok (Nat.le_of_ble_eq_true rfl) (by decide)) ⟨rfl, rfl⟩ ⟨Nat.le_refl _, Nat.le_refl _⟩ (fun k2 => ?_)
  refine n_aload_n (i := 0) dX11_fault_7 rfl rfl ?_
  refine p_getr fl_X11_19 (sh_0 _ _) rfl (rR_0_1 _ _) dX11_fault_8 ?_
  refine p_geti fl_X11_194 (sh_92 _ _) rfl dX11_fault_11 ?_
  cases h
  exact n_iret dX11_fault_14 rfl rfl (Nat.le_refl _) (Nat.le_refl _) ⟨rfl, rfl⟩
set_option maxHeartbeats 4000000 in
set_option maxRecDepth 20000 in
theorem t_X9_hasRoomFor {G : yb_G} {X : List (FieldType × Nat)} {a1 : Int32} {s : yb_S} {out : Int32} (h : f_X9_hasRoomFor a1 s = some out) : Ct G yX9_hasRoomFor cX9_hasRoomFor 2 (Option.some .boolean) (yb_rm 1) [.ref (yb_ad G 92), .int a1] (yb_mk s X) (yb_qi X s out) := by
  refine Ct.of (own := RX9) (ini := false) (vs := [some (.ref (yb_ad G 92)), some (.int a1)]) ⟨rfl, by decide +kernel⟩ (fun h => by cases h) (Nat.le_of_ble_eq_true rfl) rfl ?_
  unfold f_X9_hasRoomFor at h
  refine n_aload_n (i := 0) dX9_hasRoomFor_0 rfl rfl ?_
  refine p_geti fl_X9_33 (sh_92 _ _) rfl dX9_hasRoomFor_1 ?_
  refine n_iload_n (i := 1) dX9_hasRoomFor_4 rfl rfl ?_
  refine n_iadd dX9_hasRoomFor_5 ?_
  refine n_sipush (500 : Int32) dX9_hasRoomFor_6 sp_500 ?_
  refine n_icmp_gt 16 dX9_hasRoomFor_9 (by decide) (fun c1 => ?_) (fun c1 => ?_)
  · have h := yb_ifp c1 h
    refine n_iconst (0 : Int32) dX9_hasRoomFor_16 ic_0 ?_
    cases h
    exact n_iret dX9_hasRoomFor_17 rfl (by decide) (Nat.le_refl _) (Nat.le_refl _) ⟨rfl, rfl⟩
  · have h := yb_ifn c1 h
    refine n_iconst (1 : Int32) dX9_hasRoomFor_12 ic_1 ?_
    refine n_goto 17 dX9_hasRoomFor_13 (by decide) ?_
    cases h
    exact n_iret dX9_hasRoomFor_17 rfl (by decide) (Nat.le_refl _) (Nat.le_refl _) ⟨rfl, rfl⟩
set_option maxHeartbeats 4000000 in
set_option maxRecDepth 20000 in
theorem t_l_X9_addNumber_3 {G : yb_G} {X : List (FieldType × Nat)} {x1 : Int32} {out : yb_S} : ∀ (k0 : Nat) (x2 : Int32) (s : yb_S), l_X9_addNumber_3 x1 k0 x2 s = some out → Rn G RX9 cX9_addNumber 3 none false (yb_rm 1) (yb_qv X out) 0 0 3 [some (.ref (yb_ad G 92)), some (.int x1), some (.int x2)] [] (yb_mk s X) := by
  intro k0
  induction k0 with
  | zero => intro x2 s h; cases h
  | succ k0 ih =>
    intro x2 s h
    have h : f_X9_addNumber_3 (fun x2 s => l_X9_addNumber_3 x1 k0 x2 s) x1 x2 s = some out := h
    have hrc3 := ih
    unfold f_X9_addNumber_3 at h
    refine n_iload_n (i := 2) dX9_addNumber_3 rfl rfl ?_
    refine n_if_lt 49 dX9_addNumber_4 (by decide) (fun c1 => ?_) (fun c1 => ?_)
    · have h := yb_ifp c1 h
      cases h
      exact n_vret dX9_addNumber_49 rfl (Nat.le_refl _) (Nat.le_refl _) ⟨rfl, rfl⟩
    · have h := yb_ifn c1 h
      refine n_aload_n (i := 0) dX9_addNumber_7 rfl rfl ?_
      refine p_geti fl_X9_33 (sh_92 _ _) rfl dX9_addNumber_8 ?_
      refine n_sipush (500 : Int32) dX9_addNumber_11 sp_500 ?_
      refine n_icmp_ge 49 dX9_addNumber_14 (by decide) (fun c2 => ?_) (fun c2 => ?_)
      · have h := yb_ifp c2 h
        cases h
        exact n_vret dX9_addNumber_49 rfl (Nat.le_refl _) (Nat.le_refl _) ⟨rfl, rfl⟩
      · have h := yb_ifn c2 h
        refine n_aload_n (i := 0) dX9_addNumber_17 rfl rfl ?_
        refine p_getr fl_X9_21 (sh_92 _ _) rfl (rR_92_6 _ _) dX9_addNumber_18 ?_
        refine n_aload_n (i := 0) dX9_addNumber_21 rfl rfl ?_
        refine p_geti fl_X9_33 (sh_92 _ _) rfl dX9_addNumber_22 ?_
        refine n_iload_n (i := 1) dX9_addNumber_25 rfl rfl ?_
        refine n_iload_n (i := 2) dX9_addNumber_26 rfl rfl ?_
        refine n_iushr dX9_addNumber_27 ?_
        refine n_sipush (255 : Int32) dX9_addNumber_28 sp_255 ?_
        refine n_iand dX9_addNumber_31 ?_
        obtain ⟨s3, hs3, h⟩ := yb_bind h
        refine p_iast hs3 (sh_96 _ _) dX9_addNumber_32 ?_
        refine n_aload_n (i := 0) dX9_addNumber_33 rfl rfl ?_
        refine n_dup dX9_addNumber_34 rfl ?_
        refine p_geti fl_X9_33 (sh_92 _ _) rfl dX9_addNumber_35 ?_
        refine n_iconst (1 : Int32) dX9_addNumber_38 ic_1 ?_
        refine n_iadd dX9_addNumber_39 ?_
        obtain ⟨s4, hs4, h⟩ := yb_bind h
        refine p_puti hs4 fp_X9_33 (sh_92 _ _) rfl rfl rfl dX9_addNumber_40 ?_
        refine n_iinc (vs' := [some (.ref (yb_ad G 92)), some (.int x1), some (.int (x2 + (-8 : Int32)))]) dX9_addNumber_43 rfl (ii_m8 _) (Nat.le_of_ble_eq_true rfl) rfl rfl ?_
        refine n_goto 3 dX9_addNumber_46 (by decide) ?_
        exact p_jump (hrc3 (x2 + (-8 : Int32)) s4 h) (And.intro rfl (And.intro rfl (And.intro rfl trivial)))
set_option maxHeartbeats 4000000 in
set_option maxRecDepth 20000 in
theorem tl_X9_addNumber_3 {G : yb_G} {X : List (FieldType × Nat)} {x1 : Int32} {out : yb_S} {x2 : Int32} {s : yb_S} (h : l_X9_addNumber_3 x1 yb_N x2 s = some out) : Rn G RX9 cX9_addNumber 3 none false (yb_rm 1) (yb_qv X out) 0 0 3 [some (.ref (yb_ad G 92)), some (.int x1), some (.int x2)] [] (yb_mk s X) := t_l_X9_addNumber_3 _ _ _ h
set_option maxHeartbeats 4000000 in
set_option maxRecDepth 20000 in
theorem t_X9_addNumber {G : yb_G} {X : List (FieldType × Nat)} {a1 : Int32} {s : yb_S} {out : yb_S} (h : f_X9_addNumber a1 s = some out) : Ct G yX9_addNumber cX9_addNumber 3 none (yb_rm 1) [.ref (yb_ad G 92), .int a1] (yb_mk s X) (yb_qv X out) := by
  refine Ct.of (own := RX9) (ini := false) (vs := [some (.ref (yb_ad G 92)), some (.int a1), none]) ⟨rfl, by decide +kernel⟩ (fun h => by cases h) (Nat.le_of_ble_eq_true rfl) rfl ?_
  unfold f_X9_addNumber at h
  refine n_bipush (24 : Int32) dX9_addNumber_0 bp_24 ?_
  refine n_istore_n (i := 2) (vs' := [some (.ref (yb_ad G 92)), some (.int a1), some (.int (24 : Int32))]) dX9_addNumber_2 rfl (Nat.le_of_ble_eq_true rfl) rfl rfl ?_
  exact p_jump (tl_X9_addNumber_3 h) (And.intro rfl (And.intro rfl (And.intro rfl trivial)))
set_option maxHeartbeats 4000000 in
set_option maxRecDepth 20000 in
theorem t_X11_feed {G : yb_G} {X : List (FieldType × Nat)} {a1 : Int32} {a2 : Int32} {a3 : Int32} {a4 : Int32} {a5 : Int32} {s : yb_S} {out : (Int32 × yb_S)} (h : f_X11_feed a1 a2 a3 a4 a5 s = some out) : Ct G yX11_feed cX11_feed 6 (Option.some .int) (yb_rm 2) [.ref (yb_ad G 0), .int a1, .int a2, .int a3, .int a4, .int a5] (yb_mk s X) (yb_qi X out.2 out.1) := by
  refine Ct.of (own := RX11) (ini := false) (vs := [some (.ref (yb_ad G 0)), some (.int a1), some (.int a2), some (.int a3), some (.int a4), some (.int a5)]) ⟨rfl, by decide +kernel⟩ (fun h => by cases h) (Nat.le_of_ble_eq_true rfl) rfl ?_
  unfold f_X11_feed at h
  refine n_aload_n (i := 0) dX11_feed_0 rfl rfl ?_
  refine p_getr fl_X11_19 (sh_0 _ _) rfl (rR_0_1 _ _) dX11_feed_1 ?_
  refine n_bipush (20 : Int32) dX11_feed_4 bp_20 ?_
  obtain ⟨q1, hq1, h⟩ := yb_bind h
  refine p_callVi (As := [.int (20 : Int32)]) (t_X9_hasRoomFor hq1) cv_X11_181 (sh_92 _ _) rfl rfl (Nat.le_of_ble_eq_true rfl) dX11_feed_6 (yb_rok (Nat.le_of_ble_eq_true rfl) (by decide)) ⟨rfl, rfl⟩ ⟨Nat.le_refl _, Nat.le_refl _⟩ (fun k2 => ?_)
  refine n_if_ne 14 dX11_feed_9 (by decide) (fun c3 => ?_) (fun c3 => ?_)
  · have h := yb_ifn c3 h
    refine n_aload_n (i := 0) dX11_feed_14 rfl rfl ?_
    refine p_getr fl_X11_19 (sh_0 _ _) rfl (rR_0_1 _ _) dX11_feed_15 ?_
    refine n_iload_n (i := 1) dX11_feed_18 rfl rfl ?_
    obtain ⟨q4, hq4, h⟩ := yb_bind h
    refine p_callVv (As := [.int a1]) (t_X9_addNumber hq4) cv_X11_184 (sh_92 _ _) rfl rfl (Nat.le_of_ble_eq_true rfl) dX11_feed_19 (yb_rok (Nat.le_of_ble_eq_true rfl) (by decide)) ⟨rfl, rfl⟩ ⟨Nat.le_refl _, Nat.le_refl _⟩ (fun k5 => ?_)
    refine n_aload_n (i := 0) dX11_feed_22 rfl rfl ?_
    refine p_getr fl_X11_19 (sh_0 _ _) rfl (rR_0_1 _ _) dX11_feed_23 ?_
    refine n_iload_n (i := 2) dX11_feed_26 rfl rfl ?_
    obtain ⟨q6, hq6, h⟩ := yb_bind h
    refine p_callVv (As := [.int a2]) (t_X9_addNumber hq6) cv_X11_184 (sh_92 _ _) rfl rfl (Nat.le_of_ble_eq_true rfl) dX11_feed_27 (yb_rok (Nat.le_of_ble_eq_true rfl) (by decide)) ⟨rfl, rfl⟩ ⟨Nat.le_refl _, Nat.le_refl _⟩ (fun k7 => ?_)
    refine n_aload_n (i := 0) dX11_feed_30 rfl rfl ?_
    refine p_getr fl_X11_19 (sh_0 _ _) rfl (rR_0_1 _ _) dX11_feed_31 ?_
    refine n_iload_n (i := 3) dX11_feed_34 rfl rfl ?_
    obtain ⟨q8, hq8, h⟩ := yb_bind h
    refine p_callVv (As := [.int a3]) (t_X9_addNumber hq8) cv_X11_184 (sh_92 _ _) rfl rfl (Nat.le_of_ble_eq_true rfl) dX11_feed_35 (yb_rok (Nat.le_of_ble_eq_true rfl) (by decide)) ⟨rfl, rfl⟩ ⟨Nat.le_refl _, Nat.le_refl _⟩ (fun k9 => ?_)
    refine n_aload_n (i := 0) dX11_feed_38 rfl rfl ?_
    refine p_getr fl_X11_19 (sh_0 _ _) rfl (rR_0_1 _ _) dX11_feed_39 ?_
    refine n_iload dX11_feed_42 rfl ?_
    obtain ⟨q10, hq10, h⟩ := yb_bind h
    refine p_callVv (As := [.int a4]) (t_X9_addNumber hq10) cv_X11_184 (sh_92 _ _) rfl rfl (Nat.le_of_ble_eq_true rfl) dX11_feed_44 (yb_rok (Nat.le_of_ble_eq_true rfl) (by decide)) ⟨rfl, rfl⟩ ⟨Nat.le_refl _, Nat.le_refl _⟩ (fun k11 => ?_)
    refine n_aload_n (i := 0) dX11_feed_47 rfl rfl ?_
    refine p_getr fl_X11_19 (sh_0 _ _) rfl (rR_0_1 _ _) dX11_feed_48 ?_
    refine n_iload dX11_feed_51 rfl ?_
    obtain ⟨q12, hq12, h⟩ := yb_bind h
    refine p_callVv (As := [.int a5]) (t_X9_addNumber hq12) cv_X11_184 (sh_92 _ _) rfl rfl (Nat.le_of_ble_eq_true rfl) dX11_feed_53 (yb_rok (Nat.le_of_ble_eq_true rfl) (by decide)) ⟨rfl, rfl⟩ ⟨Nat.le_refl _, Nat.le_refl _⟩ (fun k13 => ?_)
    refine n_aload_n (i := 0) dX11_feed_56 rfl rfl ?_
    refine p_getr fl_X11_19 (sh_0 _ _) rfl (rR_0_1 _ _) dX11_feed_57 ?_
    refine p_geti fl_X11_188 (sh_92 _ _) rfl dX11_feed_60 ?_
    cases h
    exact n_iret dX11_feed_63 rfl rfl (Nat.le_refl _) (Nat.le_refl _) ⟨rfl, rfl⟩
  · have h := yb_ifp c3 h
    refine n_iconst (-1 : Int32) dX11_feed_12 ic_m1 ?_
    cases h
    exact n_iret dX11_feed_13 rfl rfl (Nat.le_refl _) (Nat.le_refl _) ⟨rfl, rfl⟩
set_option maxHeartbeats 4000000 in
set_option maxRecDepth 20000 in
theorem tj_X7_familiesOf_43 {G : yb_G} {X : List (FieldType × Nat)} {rc4 : (Int32 → Int32 → Option Int32)} {x1 : Int32} {x2 : Int32} {x3 : Int32} {s : yb_S} {out : Int32} (hrc4 : ∀ (x2' : Int32) (x3' : Int32), rc4 x2' x3' = some out → Rn G RX7 cX7_familiesOf 4 (Option.some .int) false (yb_rm 1) (yb_qi X s out) 0 0 4 [some (.ref (yb_ad G 41)), some (.int x1), some (.int x2'), some (.int x3')] [] (yb_mk s X)) (h : j_X7_familiesOf_43 rc4 x1 x2 x3 s = some out) : Rn G RX7 cX7_familiesOf 4 (Option.some .int) false (yb_rm 1) (yb_qi X s out) 0 0 43 [some (.ref (yb_ad G 41)), some (.int x1), some (.int x2), some (.int x3)] [] (yb_mk s X) := by
  unfold j_X7_familiesOf_43 at h
  refine n_iinc (vs' := [some (.ref (yb_ad G 41)), some (.int x1), some (.int x2), some (.int (x3 + (1 : Int32)))]) dX7_familiesOf_43 rfl (ii_1 _) (Nat.le_of_ble_eq_true rfl) rfl rfl ?_
  refine n_goto 4 dX7_familiesOf_46 (by decide) ?_
  exact p_jump (hrc4 x2 (x3 + (1 : Int32)) h) (And.intro rfl (And.intro rfl (And.intro rfl (And.intro rfl trivial))))
set_option maxHeartbeats 4000000 in
set_option maxRecDepth 20000 in
theorem t_l_X7_familiesOf_4 {G : yb_G} {X : List (FieldType × Nat)} {x1 : Int32} {s : yb_S} {out : Int32} : ∀ (k0 : Nat) (x2 : Int32) (x3 : Int32), l_X7_familiesOf_4 x1 s k0 x2 x3 = some out → Rn G RX7 cX7_familiesOf 4 (Option.some .int) false (yb_rm 1) (yb_qi X s out) 0 0 4 [some (.ref (yb_ad G 41)), some (.int x1), some (.int x2), some (.int x3)] [] (yb_mk s X) := by
  intro k0
  induction k0 with
  | zero => intro x2 x3 h; cases h
  | succ k0 ih =>
    intro x2 x3 h
    have h : f_X7_familiesOf_4 (fun x2 x3 => l_X7_familiesOf_4 x1 s k0 x2 x3) x1 s x2 x3 = some out := h
    have hrc4 := ih
    unfold f_X7_familiesOf_4 at h
    refine n_iload_n (i := 3) dX7_familiesOf_4 rfl rfl ?_
    refine n_aload_n (i := 0) dX7_familiesOf_5 rfl rfl ?_
    refine p_geti fl_X7_48 (sh_41 _ _) rfl dX7_familiesOf_6 ?_
    refine n_icmp_ge 49 dX7_familiesOf_9 (by decide) (fun c1 => ?_) (fun c1 => ?_)
    · have h := yb_ifp c1 h
      refine n_iload_n (i := 2) dX7_familiesOf_49 rfl rfl ?_
      cases h
      exact n_iret dX7_familiesOf_50 rfl rfl (Nat.le_refl _) (Nat.le_refl _) ⟨rfl, rfl⟩
    · have h := yb_ifn c1 h
      refine n_aload_n (i := 0) dX7_familiesOf_12 rfl rfl ?_
      refine p_getr fl_X7_30 (sh_41 _ _) rfl (rR_41_7 _ _) dX7_familiesOf_13 ?_
      refine n_iload_n (i := 3) dX7_familiesOf_16 rfl rfl ?_
      obtain ⟨v2, hv2, h⟩ := yb_bind h
      refine p_iald hv2 (sh_48 _ _) dX7_familiesOf_17 ?_
      refine n_iload_n (i := 1) dX7_familiesOf_18 rfl rfl ?_
      refine n_icmp_ne 43 dX7_familiesOf_19 (by decide) (fun c3 => ?_) (fun c3 => ?_)
      · have h := yb_ifn c3 h
        exact p_jump (tj_X7_familiesOf_43 hrc4 h) (And.intro rfl (And.intro rfl (And.intro rfl (And.intro rfl trivial))))
      · have h := yb_ifp c3 h
        refine n_aload_n (i := 0) dX7_familiesOf_22 rfl rfl ?_
        refine p_getr fl_X7_27 (sh_41 _ _) rfl (rR_41_6 _ _) dX7_familiesOf_23 ?_
        refine n_iload_n (i := 3) dX7_familiesOf_26 rfl rfl ?_
        obtain ⟨v4, hv4, h⟩ := yb_bind h
        refine p_iald hv4 (sh_47 _ _) dX7_familiesOf_27 ?_
        refine n_iconst (-1 : Int32) dX7_familiesOf_28 ic_m1 ?_
        refine n_icmp_eq 43 dX7_familiesOf_29 (by decide) (fun c5 => ?_) (fun c5 => ?_)
        · have h := yb_ifp c5 h
          exact p_jump (tj_X7_familiesOf_43 hrc4 h) (And.intro rfl (And.intro rfl (And.intro rfl (And.intro rfl trivial))))
        · have h := yb_ifn c5 h
          refine n_iload_n (i := 2) dX7_familiesOf_32 rfl rfl ?_
          refine n_iconst (1 : Int32) dX7_familiesOf_33 ic_1 ?_
          refine n_aload_n (i := 0) dX7_familiesOf_34 rfl rfl ?_
          refine p_getr fl_X7_27 (sh_41 _ _) rfl (rR_41_6 _ _) dX7_familiesOf_35 ?_
          refine n_iload_n (i := 3) dX7_familiesOf_38 rfl rfl ?_
          obtain ⟨v6, hv6, h⟩ := yb_bind h
          refine p_iald hv6 (sh_47 _ _) dX7_familiesOf_39 ?_
          refine n_ishl dX7_familiesOf_40 ?_
          refine n_ior dX7_familiesOf_41 ?_
          refine n_istore_n (i := 2) (vs' := [some (.ref (yb_ad G 41)), some (.int x1), some (.int (x2 ||| ((1 : Int32) <<< (v6 &&& 31)))), some (.int x3)]) dX7_familiesOf_42 rfl (Nat.le_of_ble_eq_true rfl) rfl rfl ?_
          exact p_jump (tj_X7_familiesOf_43 hrc4 h) (And.intro rfl (And.intro rfl (And.intro rfl (And.intro rfl trivial))))
set_option maxHeartbeats 4000000 in
set_option maxRecDepth 20000 in
theorem tl_X7_familiesOf_4 {G : yb_G} {X : List (FieldType × Nat)} {x1 : Int32} {s : yb_S} {out : Int32} {x2 : Int32} {x3 : Int32} (h : l_X7_familiesOf_4 x1 s yb_N x2 x3 = some out) : Rn G RX7 cX7_familiesOf 4 (Option.some .int) false (yb_rm 1) (yb_qi X s out) 0 0 4 [some (.ref (yb_ad G 41)), some (.int x1), some (.int x2), some (.int x3)] [] (yb_mk s X) := t_l_X7_familiesOf_4 _ _ _ h
set_option maxHeartbeats 4000000 in
set_option maxRecDepth 20000 in
theorem t_X7_familiesOf {G : yb_G} {X : List (FieldType × Nat)} {a1 : Int32} {s : yb_S} {out : Int32} (h : f_X7_familiesOf a1 s = some out) : Ct G yX7_familiesOf cX7_familiesOf 4 (Option.some .int) (yb_rm 1) [.ref (yb_ad G 41), .int a1] (yb_mk s X) (yb_qi X s out) := by
  refine Ct.of (own := RX7) (ini := false) (vs := [some (.ref (yb_ad G 41)), some (.int a1), none, none]) ⟨rfl, by decide +kernel⟩ (fun h => by cases h) (Nat.le_of_ble_eq_true rfl) rfl ?_
  unfold f_X7_familiesOf at h
  refine n_iconst (0 : Int32) dX7_familiesOf_0 ic_0 ?_
  refine n_istore_n (i := 2) (vs' := [some (.ref (yb_ad G 41)), some (.int a1), some (.int (0 : Int32)), none]) dX7_familiesOf_1 rfl (Nat.le_of_ble_eq_true rfl) rfl rfl ?_
  refine n_iconst (0 : Int32) dX7_familiesOf_2 ic_0 ?_
  refine n_istore_n (i := 3) (vs' := [some (.ref (yb_ad G 41)), some (.int a1), some (.int (0 : Int32)), some (.int (0 : Int32))]) dX7_familiesOf_3 rfl (Nat.le_of_ble_eq_true rfl) rfl rfl ?_
  exact p_jump (tl_X7_familiesOf_4 h) (And.intro rfl (And.intro rfl (And.intro rfl (And.intro rfl trivial))))
set_option maxHeartbeats 4000000 in
set_option maxRecDepth 20000 in
theorem tj_X7_howSurely_99 {G : yb_G} {X : List (FieldType × Nat)} {rc5 : (Int32 → Int32 → Option Int32)} {x1 : Int32} {x2 : Int32} {x3 : Int32} {x4 : Int32} {s : yb_S} {out : Int32} (hrc5 : ∀ (x3' : Int32) (x4' : Int32), rc5 x3' x4' = some out → Rn G RX7 cX7_howSurely 7 (Option.some .int) false (yb_rm 3) (yb_qi X s out) 0 0 5 [some (.ref (yb_ad G 41)), some (.int x1), some (.int x2), some (.int x3'), some (.int x4'), none, none] [] (yb_mk s X)) (h : j_X7_howSurely_99 rc5 x1 x2 x3 x4 s = some out) : Rn G RX7 cX7_howSurely 7 (Option.some .int) false (yb_rm 3) (yb_qi X s out) 0 0 99 [some (.ref (yb_ad G 41)), some (.int x1), some (.int x2), some (.int x3), some (.int x4), none, none] [] (yb_mk s X) := by
  unfold j_X7_howSurely_99 at h
  refine n_iinc (vs' := [some (.ref (yb_ad G 41)), some (.int x1), some (.int x2), some (.int x3), some (.int (x4 + (1 : Int32))), none, none]) dX7_howSurely_99 rfl (ii_1 _) (Nat.le_of_ble_eq_true rfl) rfl rfl ?_
  refine n_goto 5 dX7_howSurely_102 (by decide) ?_
  exact p_jump (hrc5 x3 (x4 + (1 : Int32)) h) (And.intro rfl (And.intro rfl (And.intro rfl (And.intro rfl (And.intro rfl trivial)))))
set_option maxHeartbeats 4000000 in
set_option maxRecDepth 20000 in
theorem tj_X7_howSurely_93 {G : yb_G} {X : List (FieldType × Nat)} {rc5 : (Int32 → Int32 → Option Int32)} {rc17 : (Int32 → Int32 → Option Int32)} {x1 : Int32} {x2 : Int32} {x3 : Int32} {x4 : Int32} {x5 : Int32} {s : yb_S} {out : Int32} (hrc5 : ∀ (x3' : Int32) (x4' : Int32), rc5 x3' x4' = some out → Rn G RX7 cX7_howSurely 7 (Option.some .int) false (yb_rm 3) (yb_qi X s out) 0 0 5 [some (.ref (yb_ad G 41)), some (.int x1), some (.int x2), some (.int x3'), some (.int x4'), none, none] [] (yb_mk s X)) (hrc17 : ∀ (x3' : Int32) (x5' : Int32), rc17 x3' x5' = some out → Rn G RX7 cX7_howSurely 7 (Option.some .int) false (yb_rm 3) (yb_qi X s out) 0 0 17 [some (.ref (yb_ad G 41)), some (.int x1), some (.int x2), some (.int x3'), some (.int x4), some (.int x5'), none] [] (yb_mk s X)) (h : j_X7_howSurely_93 rc5 rc17 x1 x2 x3 x4 x5 s = some out) : Rn G RX7 cX7_howSurely 7 (Option.some .int) false (yb_rm 3) (yb_qi X s out) 0 0 93 [some (.ref (yb_ad G 41)), some (.int x1), some (.int x2), some (.int x3), some (.int x4), some (.int x5), none] [] (yb_mk s X) := by
  unfold j_X7_howSurely_93 at h
  refine n_iinc (vs' := [some (.ref (yb_ad G 41)), some (.int x1), some (.int x2), some (.int x3), some (.int x4), some (.int (x5 + (1 : Int32))), none]) dX7_howSurely_93 rfl (ii_1 _) (Nat.le_of_ble_eq_true rfl) rfl rfl ?_
  refine n_goto 17 dX7_howSurely_96 (by decide) ?_
  exact p_jump (hrc17 x3 (x5 + (1 : Int32)) h) (And.intro rfl (And.intro rfl (And.intro rfl (And.intro rfl (And.intro rfl (And.intro rfl trivial))))))
set_option maxHeartbeats 4000000 in
set_option maxRecDepth 20000 in
theorem t_l_X7_howSurely_17 {G : yb_G} {X : List (FieldType × Nat)} {rc5 : (Int32 → Int32 → Option Int32)} {x1 : Int32} {x2 : Int32} {x4 : Int32} {s : yb_S} {out : Int32} (hrc5 : ∀ (x3' : Int32) (x4' : Int32), rc5 x3' x4' = some out → Rn G RX7 cX7_howSurely 7 (Option.some .int) false (yb_rm 3) (yb_qi X s out) 0 0 5 [some (.ref (yb_ad G 41)), some (.int x1), some (.int x2), some (.int x3'), some (.int x4'), none, none] [] (yb_mk s X)) : ∀ (k0 : Nat) (x3 : Int32) (x5 : Int32), l_X7_howSurely_17 rc5 x1 x2 x4 s k0 x3 x5 = some out → Rn G RX7 cX7_howSurely 7 (Option.some .int) false (yb_rm 3) (yb_qi X s out) 0 0 17 [some (.ref (yb_ad G 41)), some (.int x1), some (.int x2), some (.int x3), some (.int x4), some (.int x5), none] [] (yb_mk s X) := by
  intro k0
  induction k0 with
  | zero => intro x3 x5 h; cases h
  | succ k0 ih =>
    intro x3 x5 h
    have h : f_X7_howSurely_17 rc5 (fun x3 x5 => l_X7_howSurely_17 rc5 x1 x2 x4 s k0 x3 x5) x1 x2 x4 s x3 x5 = some out := h
    have hrc17 := ih
    unfold f_X7_howSurely_17 at h
    refine n_iload dX7_howSurely_17 rfl ?_
    refine n_aload_n (i := 0) dX7_howSurely_19 rfl rfl ?_
    refine p_geti fl_X7_48 (sh_41 _ _) rfl dX7_howSurely_20 ?_
    refine n_icmp_ge 99 dX7_howSurely_23 (by decide) (fun c2 => ?_) (fun c2 => ?_)
    · have h := yb_ifp c2 h
      exact p_jump (tj_X7_howSurely_99 hrc5 h) (And.intro rfl (And.intro rfl (And.intro rfl (And.intro rfl (And.intro rfl trivial)))))
    · have h := yb_ifn c2 h
      refine n_aload_n (i := 0) dX7_howSurely_26 rfl rfl ?_
      refine p_getr fl_X7_33 (sh_41 _ _) rfl (rR_41_9 _ _) dX7_howSurely_27 ?_
      refine n_iload dX7_howSurely_30 rfl ?_
      obtain ⟨v3, hv3, h⟩ := yb_bind h
      refine p_iald hv3 (sh_49 _ _) dX7_howSurely_32 ?_
      refine n_iload_n (i := 1) dX7_howSurely_33 rfl rfl ?_
      refine n_icmp_ne 99 dX7_howSurely_34 (by decide) (fun c4 => ?_) (fun c4 => ?_)
      · have h := yb_ifn c4 h
        exact p_jump (tj_X7_howSurely_99 hrc5 h) (And.intro rfl (And.intro rfl (And.intro rfl (And.intro rfl (And.intro rfl trivial)))))
      · have h := yb_ifp c4 h
        refine n_aload_n (i := 0) dX7_howSurely_37 rfl rfl ?_
        refine n_iload dX7_howSurely_38 rfl ?_
        refine n_aload_n (i := 0) dX7_howSurely_40 rfl rfl ?_
        refine p_getr fl_X7_36 (sh_41 _ _) rfl (rR_41_10 _ _) dX7_howSurely_41 ?_
        refine n_iload dX7_howSurely_44 rfl ?_
        obtain ⟨v5, hv5, h⟩ := yb_bind h
        refine p_iald hv5 (sh_50 _ _) dX7_howSurely_46 ?_
        refine n_aload_n (i := 0) dX7_howSurely_47 rfl rfl ?_
        refine p_getr fl_X7_39 (sh_41 _ _) rfl (rR_41_11 _ _) dX7_howSurely_48 ?_
        refine n_iload dX7_howSurely_51 rfl ?_
        obtain ⟨v6, hv6, h⟩ := yb_bind h
        refine p_iald hv6 (sh_51 _ _) dX7_howSurely_53 ?_
        obtain ⟨q7, hq7, h⟩ := yb_bind h
        refine p_callVi (As := [.int x5, .int v5, .int v6]) (t_X7_points hq7) cv_X7_73 (sh_41 _ _) rfl rfl (Nat.le_of_ble_eq_true rfl) dX7_howSurely_54 (yb_rok (Nat.le_of_ble_eq_true rfl) (by decide)) ⟨rfl, rfl⟩ ⟨Nat.le_refl _, Nat.le_refl _⟩ (fun k8 => ?_)
        refine n_istore (i := 6) (vs' := [some (.ref (yb_ad G 41)), some (.int x1), some (.int x2), some (.int x3), some (.int x4), some (.int x5), some (.int q7)]) dX7_howSurely_57 (Nat.le_of_ble_eq_true rfl) rfl rfl ?_
        refine n_iload dX7_howSurely_59 rfl ?_
        refine n_iconst (5 : Int32) dX7_howSurely_61 ic_5 ?_
        refine n_icmp_lt 93 dX7_howSurely_62 (by decide) (fun c9 => ?_) (fun c9 => ?_)
        · have h := yb_ifp c9 h
          exact p_jump (tj_X7_howSurely_93 hrc5 hrc17 h) (And.intro rfl (And.intro rfl (And.intro rfl (And.intro rfl (And.intro rfl (And.intro rfl trivial))))))
        · have h := yb_ifn c9 h
          refine n_iload dX7_howSurely_65 rfl ?_
          refine n_iload_n (i := 3) dX7_howSurely_67 rfl rfl ?_
          refine n_icmp_le 93 dX7_howSurely_68 (by decide) (fun c10 => ?_) (fun c10 => ?_)
          · have h := yb_ifp c10 h
            exact p_jump (tj_X7_howSurely_93 hrc5 hrc17 h) (And.intro rfl (And.intro rfl (And.intro rfl (And.intro rfl (And.intro rfl (And.intro rfl trivial))))))
          · have h := yb_ifn c10 h
            refine n_aload_n (i := 0) dX7_howSurely_71 rfl rfl ?_
            refine n_aload_n (i := 0) dX7_howSurely_72 rfl rfl ?_
            refine p_getr fl_X7_30 (sh_41 _ _) rfl (rR_41_7 _ _) dX7_howSurely_73 ?_
            refine n_iload dX7_howSurely_76 rfl ?_
            obtain ⟨v11, hv11, h⟩ := yb_bind h
            refine p_iald hv11 (sh_48 _ _) dX7_howSurely_78 ?_
            obtain ⟨q12, hq12, h⟩ := yb_bind h
            refine p_callVi (As := [.int v11]) (t_X7_familiesOf hq12) cv_X7_90 (sh_41 _ _) rfl rfl (Nat.le_of_ble_eq_true rfl) dX7_howSurely_79 (yb_rok (Nat.le_of_ble_eq_true rfl) (by decide)) ⟨rfl, rfl⟩ ⟨Nat.le_refl _, Nat.le_refl _⟩ (fun k13 => ?_)
            refine n_iload_n (i := 2) dX7_howSurely_82 rfl rfl ?_
            refine n_ishr dX7_howSurely_83 ?_
            refine n_iconst (1 : Int32) dX7_howSurely_84 ic_1 ?_
            refine n_iand dX7_howSurely_85 ?_
            refine n_iconst (1 : Int32) dX7_howSurely_86 ic_1 ?_
            refine n_icmp_ne 93 dX7_howSurely_87 (by decide) (fun c14 => ?_) (fun c14 => ?_)
            · have h := yb_ifn c14 h
              exact p_jump (tj_X7_howSurely_93 hrc5 hrc17 h) (And.intro rfl (And.intro rfl (And.intro rfl (And.intro rfl (And.intro rfl (And.intro rfl trivial))))))
            · have h := yb_ifp c14 h
              refine n_iload dX7_howSurely_90 rfl ?_
              refine n_istore_n (i := 3) (vs' := [some (.ref (yb_ad G 41)), some (.int x1), some (.int x2), some (.int q7), some (.int x4), some (.int x5), some (.int q7)]) dX7_howSurely_92 rfl (Nat.le_of_ble_eq_true rfl) rfl rfl ?_
              exact p_jump (tj_X7_howSurely_93 hrc5 hrc17 h) (And.intro rfl (And.intro rfl (And.intro rfl (And.intro rfl (And.intro rfl (And.intro rfl trivial))))))
set_option maxHeartbeats 4000000 in
set_option maxRecDepth 20000 in
theorem tl_X7_howSurely_17 {G : yb_G} {X : List (FieldType × Nat)} {rc5 : (Int32 → Int32 → Option Int32)} {x1 : Int32} {x2 : Int32} {x4 : Int32} {s : yb_S} {out : Int32} (hrc5 : ∀ (x3' : Int32) (x4' : Int32), rc5 x3' x4' = some out → Rn G RX7 cX7_howSurely 7 (Option.some .int) false (yb_rm 3) (yb_qi X s out) 0 0 5 [some (.ref (yb_ad G 41)), some (.int x1), some (.int x2), some (.int x3'), some (.int x4'), none, none] [] (yb_mk s X)) {x3 : Int32} {x5 : Int32} (h : l_X7_howSurely_17 rc5 x1 x2 x4 s yb_N x3 x5 = some out) : Rn G RX7 cX7_howSurely 7 (Option.some .int) false (yb_rm 3) (yb_qi X s out) 0 0 17 [some (.ref (yb_ad G 41)), some (.int x1), some (.int x2), some (.int x3), some (.int x4), some (.int x5), none] [] (yb_mk s X) := t_l_X7_howSurely_17 hrc5 _ _ _ h
set_option maxHeartbeats 4000000 in
set_option maxRecDepth 20000 in
theorem t_l_X7_howSurely_5 {G : yb_G} {X : List (FieldType × Nat)} {x1 : Int32} {x2 : Int32} {s : yb_S} {out : Int32} : ∀ (k0 : Nat) (x3 : Int32) (x4 : Int32), l_X7_howSurely_5 x1 x2 s k0 x3 x4 = some out → Rn G RX7 cX7_howSurely 7 (Option.some .int) false (yb_rm 3) (yb_qi X s out) 0 0 5 [some (.ref (yb_ad G 41)), some (.int x1), some (.int x2), some (.int x3), some (.int x4), none, none] [] (yb_mk s X) := by
  intro k0
  induction k0 with
  | zero => intro x3 x4 h; cases h
  | succ k0 ih =>
    intro x3 x4 h
    have h : f_X7_howSurely_5 (fun x3 x4 => l_X7_howSurely_5 x1 x2 s k0 x3 x4) x1 x2 s x3 x4 = some out := h
    have hrc5 := ih
    unfold f_X7_howSurely_5 at h
    refine n_iload dX7_howSurely_5 rfl ?_
    refine n_aload_n (i := 0) dX7_howSurely_7 rfl rfl ?_
    refine p_geti fl_X7_83 (sh_41 _ _) rfl dX7_howSurely_8 ?_
    refine n_icmp_ge 105 dX7_howSurely_11 (by decide) (fun c1 => ?_) (fun c1 => ?_)
    · have h := yb_ifp c1 h
      refine n_iload_n (i := 3) dX7_howSurely_105 rfl rfl ?_
      cases h
      exact n_iret dX7_howSurely_106 rfl rfl (Nat.le_refl _) (Nat.le_refl _) ⟨rfl, rfl⟩
    · have h := yb_ifn c1 h
      refine n_iconst (0 : Int32) dX7_howSurely_14 ic_0 ?_
      refine n_istore (i := 5) (vs' := [some (.ref (yb_ad G 41)), some (.int x1), some (.int x2), some (.int x3), some (.int x4), some (.int (0 : Int32)), none]) dX7_howSurely_15 (Nat.le_of_ble_eq_true rfl) rfl rfl ?_
      exact p_jump (tl_X7_howSurely_17 hrc5 h) (And.intro rfl (And.intro rfl (And.intro rfl (And.intro rfl (And.intro rfl (And.intro rfl trivial))))))
set_option maxHeartbeats 4000000 in
set_option maxRecDepth 20000 in
theorem tl_X7_howSurely_5 {G : yb_G} {X : List (FieldType × Nat)} {x1 : Int32} {x2 : Int32} {s : yb_S} {out : Int32} {x3 : Int32} {x4 : Int32} (h : l_X7_howSurely_5 x1 x2 s yb_N x3 x4 = some out) : Rn G RX7 cX7_howSurely 7 (Option.some .int) false (yb_rm 3) (yb_qi X s out) 0 0 5 [some (.ref (yb_ad G 41)), some (.int x1), some (.int x2), some (.int x3), some (.int x4), none, none] [] (yb_mk s X) := t_l_X7_howSurely_5 _ _ _ h
set_option maxHeartbeats 4000000 in
set_option maxRecDepth 20000 in
theorem t_X7_howSurely {G : yb_G} {X : List (FieldType × Nat)} {a1 : Int32} {a2 : Int32} {s : yb_S} {out : Int32} (h : f_X7_howSurely a1 a2 s = some out) : Ct G yX7_howSurely cX7_howSurely 7 (Option.some .int) (yb_rm 3) [.ref (yb_ad G 41), .int a1, .int a2] (yb_mk s X) (yb_qi X s out) := by
  refine Ct.of (own := RX7) (ini := false) (vs := [some (.ref (yb_ad G 41)), some (.int a1), some (.int a2), none, none, none, none]) ⟨rfl, by decide +kernel⟩ (fun h => by cases h) (Nat.le_of_ble_eq_true rfl) rfl ?_
  unfold f_X7_howSurely at h
  refine n_iconst (-1 : Int32) dX7_howSurely_0 ic_m1 ?_
  refine n_istore_n (i := 3) (vs' := [some (.ref (yb_ad G 41)), some (.int a1), some (.int a2), some (.int (-1 : Int32)), none, none, none]) dX7_howSurely_1 rfl (Nat.le_of_ble_eq_true rfl) rfl rfl ?_
  refine n_iconst (0 : Int32) dX7_howSurely_2 ic_0 ?_
  refine n_istore (i := 4) (vs' := [some (.ref (yb_ad G 41)), some (.int a1), some (.int a2), some (.int (-1 : Int32)), some (.int (0 : Int32)), none, none]) dX7_howSurely_3 (Nat.le_of_ble_eq_true rfl) rfl rfl ?_
  exact p_jump (tl_X7_howSurely_5 h) (And.intro rfl (And.intro rfl (And.intro rfl (And.intro rfl (And.intro rfl trivial)))))
set_option maxHeartbeats 4000000 in
set_option maxRecDepth 20000 in
theorem t_X11_finds {G : yb_G} {X : List (FieldType × Nat)} {a1 : Int32} {a2 : Int32} {s : yb_S} {out : Int32} (h : f_X11_finds a1 a2 s = some out) : Ct G yX11_finds cX11_finds 3 (Option.some .int) (yb_rm 4) [.ref (yb_ad G 0), .int a1, .int a2] (yb_mk s X) (yb_qi X s out) := by
  refine Ct.of (own := RX11) (ini := false) (vs := [some (.ref (yb_ad G 0)), some (.int a1), some (.int a2)]) ⟨rfl, by decide +kernel⟩ (fun h => by cases h) (Nat.le_of_ble_eq_true rfl) rfl ?_
  unfold f_X11_finds at h
  refine n_aload_n (i := 0) dX11_finds_0 rfl rfl ?_
  refine p_getr fl_X11_10 (sh_0 _ _) rfl (rR_0_0 _ _) dX11_finds_1 ?_
  refine p_getr fl_X11_100 (sh_1 _ _) rfl (rR_1_2 _ _) dX11_finds_4 ?_
  refine n_iload_n (i := 1) dX11_finds_7 rfl rfl ?_
  obtain ⟨q1, hq1, h⟩ := yb_bind h
  refine p_callVi (As := [.int a1]) (t_X2_has hq1) cv_X11_127 (sh_21 _ _) rfl rfl (Nat.le_of_ble_eq_true rfl) dX11_finds_8 (yb_rok (Nat.le_of_ble_eq_true rfl) (by decide)) ⟨rfl, rfl⟩ ⟨Nat.le_refl _, Nat.le_refl _⟩ (fun k2 => ?_)
  refine n_if_eq 33 dX11_finds_11 (by decide) (fun c3 => ?_) (fun c3 => ?_)
  · have h := yb_ifp c3 h
    refine n_iconst (-1 : Int32) dX11_finds_33 ic_m1 ?_
    cases h
    exact n_iret dX11_finds_34 rfl rfl (Nat.le_refl _) (Nat.le_refl _) ⟨rfl, rfl⟩
  · have h := yb_ifn c3 h
    refine n_aload_n (i := 0) dX11_finds_14 rfl rfl ?_
    refine p_getr fl_X11_10 (sh_0 _ _) rfl (rR_0_0 _ _) dX11_finds_15 ?_
    refine p_getr fl_X11_100 (sh_1 _ _) rfl (rR_1_2 _ _) dX11_finds_18 ?_
    refine n_iload_n (i := 2) dX11_finds_21 rfl rfl ?_
    obtain ⟨q4, hq4, h⟩ := yb_bind h
    refine p_callVi (As := [.int a2]) (t_X2_has hq4) cv_X11_127 (sh_21 _ _) rfl rfl (Nat.le_of_ble_eq_true rfl) dX11_finds_22 (yb_rok (Nat.le_of_ble_eq_true rfl) (by decide)) ⟨rfl, rfl⟩ ⟨Nat.le_refl _, Nat.le_refl _⟩ (fun k5 => ?_)
    refine n_if_eq 33 dX11_finds_25 (by decide) (fun c6 => ?_) (fun c6 => ?_)
    · have h := yb_ifp c6 h
      refine n_iconst (-1 : Int32) dX11_finds_33 ic_m1 ?_
      cases h
      exact n_iret dX11_finds_34 rfl rfl (Nat.le_refl _) (Nat.le_refl _) ⟨rfl, rfl⟩
    · have h := yb_ifn c6 h
      refine n_iload_n (i := 1) dX11_finds_28 rfl rfl ?_
      refine n_iload_n (i := 2) dX11_finds_29 rfl rfl ?_
      refine n_icmp_ne 35 dX11_finds_30 (by decide) (fun c7 => ?_) (fun c7 => ?_)
      · have h := yb_ifn c7 h
        refine n_aload_n (i := 0) dX11_finds_35 rfl rfl ?_
        refine p_getr fl_X11_10 (sh_0 _ _) rfl (rR_0_0 _ _) dX11_finds_36 ?_
        refine p_getr fl_X11_128 (sh_1 _ _) rfl (rR_1_3 _ _) dX11_finds_39 ?_
        refine n_iload_n (i := 1) dX11_finds_42 rfl rfl ?_
        refine n_iload_n (i := 2) dX11_finds_43 rfl rfl ?_
        obtain ⟨q8, hq8, h⟩ := yb_bind h
        refine p_callVi (As := [.int a1, .int a2]) (t_X7_howSurely hq8) cv_X11_172 (sh_41 _ _) rfl rfl (Nat.le_of_ble_eq_true rfl) dX11_finds_44 (yb_rok (Nat.le_of_ble_eq_true rfl) (by decide)) ⟨rfl, rfl⟩ ⟨Nat.le_refl _, Nat.le_refl _⟩ (fun k9 => ?_)
        cases h
        exact n_iret dX11_finds_47 rfl rfl (Nat.le_refl _) (Nat.le_refl _) ⟨rfl, rfl⟩
      · have h := yb_ifp c7 h
        refine n_iconst (-1 : Int32) dX11_finds_33 ic_m1 ?_
        cases h
        exact n_iret dX11_finds_34 rfl rfl (Nat.le_refl _) (Nat.le_refl _) ⟨rfl, rfl⟩
set_option maxHeartbeats 4000000 in
set_option maxRecDepth 20000 in
theorem t_X3_addBeds {G : yb_G} {X : List (FieldType × Nat)} {a1 : Int32} {a2 : Int32} {s : yb_S} {out : (Int32 × yb_S)} (h : f_X3_addBeds a1 a2 s = some out) : Ct G yX3_addBeds cX3_addBeds 3 (Option.some .int) (yb_rm 1) [.ref (yb_ad G 172), .int a1, .int a2] (yb_mk s X) (yb_qi X out.2 out.1) := by
  refine Ct.of (own := RX3) (ini := false) (vs := [some (.ref (yb_ad G 172)), some (.int a1), some (.int a2)]) ⟨rfl, by decide +kernel⟩ (fun h => by cases h) (Nat.le_of_ble_eq_true rfl) rfl ?_
  unfold f_X3_addBeds at h
  refine n_aload_n (i := 0) dX3_addBeds_0 rfl rfl ?_
  refine p_geti fl_X3_25 (sh_172 _ _) rfl dX3_addBeds_1 ?_
  refine n_bipush (40 : Int32) dX3_addBeds_4 bp_40 ?_
  refine n_icmp_lt 11 dX3_addBeds_6 (by decide) (fun c1 => ?_) (fun c1 => ?_)
  · have h := yb_ifp c1 h
    refine n_aload_n (i := 0) dX3_addBeds_11 rfl rfl ?_
    refine p_getr fl_X3_18 (sh_172 _ _) rfl (rR_172_4 _ _) dX3_addBeds_12 ?_
    refine n_iload_n (i := 1) dX3_addBeds_15 rfl rfl ?_
    refine n_dup2 dX3_addBeds_16 rfl rfl ?_
    obtain ⟨v2, hv2, h⟩ := yb_bind h
    refine p_iald hv2 (sh_175 _ _) dX3_addBeds_17 ?_
    refine n_iload_n (i := 2) dX3_addBeds_18 rfl rfl ?_
    refine n_iadd dX3_addBeds_19 ?_
    obtain ⟨s3, hs3, h⟩ := yb_bind h
    refine p_iast hs3 (sh_175 _ _) dX3_addBeds_20 ?_
    refine n_aload_n (i := 0) dX3_addBeds_21 rfl rfl ?_
    refine n_dup dX3_addBeds_22 rfl ?_
    refine p_geti fl_X3_25 (sh_172 _ _) rfl dX3_addBeds_23 ?_
    refine n_iconst (1 : Int32) dX3_addBeds_26 ic_1 ?_
    refine n_iadd dX3_addBeds_27 ?_
    obtain ⟨s4, hs4, h⟩ := yb_bind h
    refine p_puti hs4 fp_X3_25 (sh_172 _ _) rfl rfl rfl dX3_addBeds_28 ?_
    refine n_aload_n (i := 0) dX3_addBeds_31 rfl rfl ?_
    refine p_geti fl_X3_25 (sh_172 _ _) rfl dX3_addBeds_32 ?_
    cases h
    exact n_iret dX3_addBeds_35 rfl rfl (Nat.le_refl _) (Nat.le_refl _) ⟨rfl, rfl⟩
  · have h := yb_ifn c1 h
    refine n_iconst (-1 : Int32) dX3_addBeds_9 ic_m1 ?_
    cases h
    exact n_iret dX3_addBeds_10 rfl rfl (Nat.le_refl _) (Nat.le_refl _) ⟨rfl, rfl⟩
set_option maxHeartbeats 4000000 in
set_option maxRecDepth 20000 in
theorem t_X11_foretell {G : yb_G} {X : List (FieldType × Nat)} {a1 : Int32} {a2 : Int32} {s : yb_S} {out : (Int32 × yb_S)} (h : f_X11_foretell a1 a2 s = some out) : Ct G yX11_foretell cX11_foretell 3 (Option.some .int) (yb_rm 2) [.ref (yb_ad G 0), .int a1, .int a2] (yb_mk s X) (yb_qi X out.2 out.1) := by
  refine Ct.of (own := RX11) (ini := false) (vs := [some (.ref (yb_ad G 0)), some (.int a1), some (.int a2)]) ⟨rfl, by decide +kernel⟩ (fun h => by cases h) (Nat.le_of_ble_eq_true rfl) rfl ?_
  unfold f_X11_foretell at h
  refine n_aload_n (i := 0) dX11_foretell_0 rfl rfl ?_
  refine n_iload_n (i := 1) dX11_foretell_1 rfl rfl ?_
  obtain ⟨q1, hq1, h⟩ := yb_bind h
  refine p_callVi (As := [.int a1]) (t_X11_isAhead hq1) cv_X11_309 (sh_0 _ _) rfl rfl (Nat.le_of_ble_eq_true rfl) dX11_foretell_2 (yb_rok (Nat.le_of_ble_eq_true rfl) (by decide)) ⟨rfl, rfl⟩ ⟨Nat.le_refl _, Nat.le_refl _⟩ (fun k2 => ?_)
  refine n_if_eq 20 dX11_foretell_5 (by decide) (fun c3 => ?_) (fun c3 => ?_)
  · have h := yb_ifp c3 h
    refine n_iconst (-1 : Int32) dX11_foretell_20 ic_m1 ?_
    cases h
    exact n_iret dX11_foretell_21 rfl rfl (Nat.le_refl _) (Nat.le_refl _) ⟨rfl, rfl⟩
  · have h := yb_ifn c3 h
    refine n_iload_n (i := 2) dX11_foretell_8 rfl rfl ?_
    refine n_bipush (-100 : Int32) dX11_foretell_9 bp_m100 ?_
    refine n_icmp_lt 20 dX11_foretell_11 (by decide) (fun c4 => ?_) (fun c4 => ?_)
    · have h := yb_ifp c4 h
      refine n_iconst (-1 : Int32) dX11_foretell_20 ic_m1 ?_
      cases h
      exact n_iret dX11_foretell_21 rfl rfl (Nat.le_refl _) (Nat.le_refl _) ⟨rfl, rfl⟩
    · have h := yb_ifn c4 h
      refine n_iload_n (i := 2) dX11_foretell_14 rfl rfl ?_
      refine n_bipush (100 : Int32) dX11_foretell_15 bp_100 ?_
      refine n_icmp_le 22 dX11_foretell_17 (by decide) (fun c5 => ?_) (fun c5 => ?_)
      · have h := yb_ifp c5 h
        refine n_aload_n (i := 0) dX11_foretell_22 rfl rfl ?_
        refine p_getr fl_X11_49 (sh_0 _ _) rfl (rR_0_5 _ _) dX11_foretell_23 ?_
        refine n_iload_n (i := 1) dX11_foretell_26 rfl rfl ?_
        refine n_iload_n (i := 2) dX11_foretell_27 rfl rfl ?_
        obtain ⟨q6, hq6, h⟩ := yb_bind h
        refine p_callVi (As := [.int a1, .int a2]) (t_X3_addBeds hq6) cv_X11_315 (sh_172 _ _) rfl rfl (Nat.le_of_ble_eq_true rfl) dX11_foretell_28 (yb_rok (Nat.le_of_ble_eq_true rfl) (by decide)) ⟨rfl, rfl⟩ ⟨Nat.le_refl _, Nat.le_refl _⟩ (fun k7 => ?_)
        cases h
        exact n_iret dX11_foretell_31 rfl rfl (Nat.le_refl _) (Nat.le_refl _) ⟨rfl, rfl⟩
      · have h := yb_ifn c5 h
        refine n_iconst (-1 : Int32) dX11_foretell_20 ic_m1 ?_
        cases h
        exact n_iret dX11_foretell_21 rfl rfl (Nat.le_refl _) (Nat.le_refl _) ⟨rfl, rfl⟩
set_option maxHeartbeats 4000000 in
set_option maxRecDepth 20000 in
theorem t_X11_full {G : yb_G} {X : List (FieldType × Nat)} {a1 : Int32} {a2 : Int32} {s : yb_S} {out : (Int32 × yb_S)} (h : f_X11_full a1 a2 s = some out) : Ct G yX11_full cX11_full 3 (Option.some .boolean) (yb_rm 2) [.ref (yb_ad G 0), .int a1, .int a2] (yb_mk s X) (yb_qi X out.2 out.1) := by
  refine Ct.of (own := RX11) (ini := false) (vs := [some (.ref (yb_ad G 0)), some (.int a1), some (.int a2)]) ⟨rfl, by decide +kernel⟩ (fun h => by cases h) (Nat.le_of_ble_eq_true rfl) rfl ?_
  unfold f_X11_full at h
  refine n_aload_n (i := 0) dX11_full_0 rfl rfl ?_
  refine p_getr fl_X11_10 (sh_0 _ _) rfl (rR_0_0 _ _) dX11_full_1 ?_
  refine p_getr fl_X11_53 (sh_1 _ _) rfl (rR_1_0 _ _) dX11_full_4 ?_
  refine n_iload_n (i := 1) dX11_full_7 rfl rfl ?_
  obtain ⟨q1, hq1, h⟩ := yb_bind h
  refine p_callVi (As := [.int a1]) (t_X10_has hq1) cv_X11_63 (sh_2 _ _) rfl rfl (Nat.le_of_ble_eq_true rfl) dX11_full_8 (yb_rok (Nat.le_of_ble_eq_true rfl) (by decide)) ⟨rfl, rfl⟩ ⟨Nat.le_refl _, Nat.le_refl _⟩ (fun k2 => ?_)
  refine n_if_eq 30 dX11_full_11 (by decide) (fun c3 => ?_) (fun c3 => ?_)
  · have h := yb_ifp c3 h
    refine n_iconst (0 : Int32) dX11_full_30 ic_0 ?_
    cases h
    exact n_iret dX11_full_31 rfl (by decide) (Nat.le_refl _) (Nat.le_refl _) ⟨rfl, rfl⟩
  · have h := yb_ifn c3 h
    refine n_aload_n (i := 0) dX11_full_14 rfl rfl ?_
    refine p_getr fl_X11_10 (sh_0 _ _) rfl (rR_0_0 _ _) dX11_full_15 ?_
    refine p_getr fl_X11_53 (sh_1 _ _) rfl (rR_1_0 _ _) dX11_full_18 ?_
    refine p_getr fl_X11_67 (sh_2 _ _) rfl (rR_2_5 _ _) dX11_full_21 ?_
    refine n_iload_n (i := 1) dX11_full_24 rfl rfl ?_
    obtain ⟨v4, hv4, h⟩ := yb_bind h
    refine p_zald hv4 (sh_7 _ _) dX11_full_25 ?_
    refine n_iload_n (i := 2) dX11_full_26 rfl rfl ?_
    refine n_icmp_ne 32 dX11_full_27 (by decide) (fun c5 => ?_) (fun c5 => ?_)
    · have h := yb_ifn c5 h
      refine n_aload_n (i := 0) dX11_full_32 rfl rfl ?_
      refine p_getr fl_X11_10 (sh_0 _ _) rfl (rR_0_0 _ _) dX11_full_33 ?_
      refine p_getr fl_X11_53 (sh_1 _ _) rfl (rR_1_0 _ _) dX11_full_36 ?_
      refine p_getr fl_X11_67 (sh_2 _ _) rfl (rR_2_5 _ _) dX11_full_39 ?_
      refine n_iload_n (i := 1) dX11_full_42 rfl rfl ?_
      refine n_iload_n (i := 2) dX11_full_43 rfl rfl ?_
      obtain ⟨s6, hs6, h⟩ := yb_bind h
      refine p_zast hs6 (sh_7 _ _) dX11_full_44 ?_
      refine n_iconst (1 : Int32) dX11_full_45 ic_1 ?_
      cases h
      exact n_iret dX11_full_46 rfl (by decide) (Nat.le_refl _) (Nat.le_refl _) ⟨rfl, rfl⟩
    · have h := yb_ifp c5 h
      refine n_iconst (0 : Int32) dX11_full_30 ic_0 ?_
      cases h
      exact n_iret dX11_full_31 rfl (by decide) (Nat.le_refl _) (Nat.le_refl _) ⟨rfl, rfl⟩
set_option maxHeartbeats 4000000 in
set_option maxRecDepth 20000 in
theorem tj_X11_go_42 {G : yb_G} {X : List (FieldType × Nat)} {s : yb_S} {out : (Int32 × yb_S)} (h : j_X11_go_42 s = some out) : Rn G RX11 cX11_go 3 (Option.some .int) false (yb_rm 8) (yb_qi X out.2 out.1) 0 0 42 [some (.ref (yb_ad G 0)), none, none] [] (yb_mk s X) := by
  unfold j_X11_go_42 at h
  refine n_aload_n (i := 0) dX11_go_42 rfl rfl ?_
  refine p_getr fl_X11_10 (sh_0 _ _) rfl (rR_0_0 _ _) dX11_go_43 ?_
  refine p_geti fl_X11_104 (sh_1 _ _) rfl dX11_go_46 ?_
  cases h
  exact n_iret dX11_go_49 rfl rfl (Nat.le_refl _) (Nat.le_refl _) ⟨rfl, rfl⟩
set_option maxHeartbeats 4000000 in
set_option maxRecDepth 20000 in
theorem t_l_X11_go_14 {G : yb_G} {X : List (FieldType × Nat)} {x1 : Int32} {out : (Int32 × yb_S)} : ∀ (k0 : Nat) (x2 : Int32) (s : yb_S), l_X11_go_14 x1 k0 x2 s = some out → Rn G RX11 cX11_go 3 (Option.some .int) false (yb_rm 8) (yb_qi X out.2 out.1) 0 0 14 [some (.ref (yb_ad G 0)), some (.int x1), some (.int x2)] [] (yb_mk s X) := by
  intro k0
  induction k0 with
  | zero => intro x2 s h; cases h
  | succ k0 ih =>
    intro x2 s h
    have h : f_X11_go_14 (fun x2 s => l_X11_go_14 x1 k0 x2 s) x1 x2 s = some out := h
    have hrc14 := ih
    unfold f_X11_go_14 at h
    refine n_iload_n (i := 2) dX11_go_14 rfl rfl ?_
    refine n_iload_n (i := 1) dX11_go_15 rfl rfl ?_
    refine n_icmp_ge 42 dX11_go_16 (by decide) (fun c3 => ?_) (fun c3 => ?_)
    · have h := yb_ifp c3 h
      exact p_jump (tj_X11_go_42 h) (And.intro rfl trivial)
    · have h := yb_ifn c3 h
      refine n_aload_n (i := 0) dX11_go_19 rfl rfl ?_
      refine p_getr fl_X11_10 (sh_0 _ _) rfl (rR_0_0 _ _) dX11_go_20 ?_
      refine p_geti fl_X11_104 (sh_1 _ _) rfl dX11_go_23 ?_
      refine n_sipush (200 : Int32) dX11_go_26 sp_200 ?_
      refine n_icmp_ge 42 dX11_go_29 (by decide) (fun c4 => ?_) (fun c4 => ?_)
      · have h := yb_ifp c4 h
        exact p_jump (tj_X11_go_42 h) (And.intro rfl trivial)
      · have h := yb_ifn c4 h
        refine n_aload_n (i := 0) dX11_go_32 rfl rfl ?_
        obtain ⟨q5, hq5, h⟩ := yb_bind h
        refine p_callVv (As := []) (t_X11_closeDay hq5) cv_X11_265 (sh_0 _ _) rfl rfl (Nat.le_of_ble_eq_true rfl) dX11_go_33 (yb_rok (Nat.le_of_ble_eq_true rfl) (by decide)) ⟨rfl, rfl⟩ ⟨Nat.le_refl _, Nat.le_refl _⟩ (fun k6 => ?_)
        refine n_iinc (vs' := [some (.ref (yb_ad G 0)), some (.int x1), some (.int (x2 + (1 : Int32)))]) dX11_go_36 rfl (ii_1 _) (Nat.le_of_ble_eq_true rfl) rfl rfl ?_
        refine n_goto 14 dX11_go_39 (by decide) ?_
        exact p_jump (hrc14 (x2 + (1 : Int32)) q5 h) (And.intro rfl (And.intro rfl (And.intro rfl trivial)))
set_option maxHeartbeats 4000000 in
set_option maxRecDepth 20000 in
theorem tl_X11_go_14 {G : yb_G} {X : List (FieldType × Nat)} {x1 : Int32} {out : (Int32 × yb_S)} {x2 : Int32} {s : yb_S} (h : l_X11_go_14 x1 yb_N x2 s = some out) : Rn G RX11 cX11_go 3 (Option.some .int) false (yb_rm 8) (yb_qi X out.2 out.1) 0 0 14 [some (.ref (yb_ad G 0)), some (.int x1), some (.int x2)] [] (yb_mk s X) := t_l_X11_go_14 _ _ _ h
set_option maxHeartbeats 4000000 in
set_option maxRecDepth 20000 in
theorem t_X11_go {G : yb_G} {X : List (FieldType × Nat)} {a1 : Int32} {s : yb_S} {out : (Int32 × yb_S)} (h : f_X11_go a1 s = some out) : Ct G yX11_go cX11_go 3 (Option.some .int) (yb_rm 8) [.ref (yb_ad G 0), .int a1] (yb_mk s X) (yb_qi X out.2 out.1) := by
  refine Ct.of (own := RX11) (ini := false) (vs := [some (.ref (yb_ad G 0)), some (.int a1), none]) ⟨rfl, by decide +kernel⟩ (fun h => by cases h) (Nat.le_of_ble_eq_true rfl) rfl ?_
  unfold f_X11_go at h
  refine n_iload_n (i := 1) dX11_go_0 rfl rfl ?_
  refine n_if_lt 10 dX11_go_1 (by decide) (fun c1 => ?_) (fun c1 => ?_)
  · have h := yb_ifp c1 h
    refine n_iconst (-1 : Int32) dX11_go_10 ic_m1 ?_
    cases h
    exact n_iret dX11_go_11 rfl rfl (Nat.le_refl _) (Nat.le_refl _) ⟨rfl, rfl⟩
  · have h := yb_ifn c1 h
    refine n_iload_n (i := 1) dX11_go_4 rfl rfl ?_
    refine n_bipush (40 : Int32) dX11_go_5 bp_40 ?_
    refine n_icmp_le 12 dX11_go_7 (by decide) (fun c2 => ?_) (fun c2 => ?_)
    · have h := yb_ifp c2 h
      refine n_iconst (0 : Int32) dX11_go_12 ic_0 ?_
      refine n_istore_n (i := 2) (vs' := [some (.ref (yb_ad G 0)), some (.int a1), some (.int (0 : Int32))]) dX11_go_13 rfl (Nat.le_of_ble_eq_true rfl) rfl rfl ?_
      exact p_jump (tl_X11_go_14 h) (And.intro rfl (And.intro rfl (And.intro rfl trivial)))
    · have h := yb_ifn c2 h
      refine n_iconst (-1 : Int32) dX11_go_10 ic_m1 ?_
      cases h
      exact n_iret dX11_go_11 rfl rfl (Nat.le_refl _) (Nat.le_refl _) ⟨rfl, rfl⟩
set_option maxHeartbeats 4000000 in
set_option maxRecDepth 20000 in
theorem t_X4_add {G : yb_G} {X : List (FieldType × Nat)} {a1 : Int32} {a2 : Int32} {a3 : Int32} {s : yb_S} {out : (Int32 × yb_S)} (h : f_X4_add a1 a2 a3 s = some out) : Ct G yX4_add cX4_add 4 (Option.some .int) (yb_rm 1) [.ref (yb_ad G 13), .int a1, .int a2, .int a3] (yb_mk s X) (yb_qi X out.2 out.1) := by
  refine Ct.of (own := RX4) (ini := false) (vs := [some (.ref (yb_ad G 13)), some (.int a1), some (.int a2), some (.int a3)]) ⟨rfl, by decide +kernel⟩ (fun h => by cases h) (Nat.le_of_ble_eq_true rfl) rfl ?_
  unfold f_X4_add at h
  refine n_aload_n (i := 0) dX4_add_0 rfl rfl ?_
  refine p_geti fl_X4_33 (sh_13 _ _) rfl dX4_add_1 ?_
  refine n_bipush (24 : Int32) dX4_add_4 bp_24 ?_
  refine n_icmp_lt 11 dX4_add_6 (by decide) (fun c1 => ?_) (fun c1 => ?_)
  · have h := yb_ifp c1 h
    refine n_aload_n (i := 0) dX4_add_11 rfl rfl ?_
    refine p_getr fl_X4_9 (sh_13 _ _) rfl (rR_13_1 _ _) dX4_add_12 ?_
    refine n_aload_n (i := 0) dX4_add_15 rfl rfl ?_
    refine p_geti fl_X4_33 (sh_13 _ _) rfl dX4_add_16 ?_
    refine n_iload_n (i := 1) dX4_add_19 rfl rfl ?_
    obtain ⟨s2, hs2, h⟩ := yb_bind h
    refine p_iast hs2 (sh_14 _ _) dX4_add_20 ?_
    refine n_aload_n (i := 0) dX4_add_21 rfl rfl ?_
    refine p_getr fl_X4_15 (sh_13 _ _) rfl (rR_13_2 _ _) dX4_add_22 ?_
    refine n_aload_n (i := 0) dX4_add_25 rfl rfl ?_
    refine p_geti fl_X4_33 (sh_13 _ _) rfl dX4_add_26 ?_
    refine n_iload_n (i := 2) dX4_add_29 rfl rfl ?_
    refine n_bipush (100 : Int32) dX4_add_30 bp_100 ?_
    refine n_idiv dX4_add_32 (by decide) ?_
    obtain ⟨s3, hs3, h⟩ := yb_bind h
    refine p_iast hs3 (sh_15 _ _) dX4_add_33 ?_
    refine n_aload_n (i := 0) dX4_add_34 rfl rfl ?_
    refine p_getr fl_X4_18 (sh_13 _ _) rfl (rR_13_3 _ _) dX4_add_35 ?_
    refine n_aload_n (i := 0) dX4_add_38 rfl rfl ?_
    refine p_geti fl_X4_33 (sh_13 _ _) rfl dX4_add_39 ?_
    refine n_iload_n (i := 2) dX4_add_42 rfl rfl ?_
    refine n_bipush (10 : Int32) dX4_add_43 bp_10 ?_
    refine n_idiv dX4_add_45 (by decide) ?_
    refine n_bipush (10 : Int32) dX4_add_46 bp_10 ?_
    refine p_irem (by decide) dX4_add_48 ?_
    obtain ⟨s4, hs4, h⟩ := yb_bind h
    refine p_iast hs4 (sh_16 _ _) dX4_add_49 ?_
    refine n_aload_n (i := 0) dX4_add_50 rfl rfl ?_
    refine p_getr fl_X4_21 (sh_13 _ _) rfl (rR_13_4 _ _) dX4_add_51 ?_
    refine n_aload_n (i := 0) dX4_add_54 rfl rfl ?_
    refine p_geti fl_X4_33 (sh_13 _ _) rfl dX4_add_55 ?_
    refine n_iload_n (i := 2) dX4_add_58 rfl rfl ?_
    refine n_bipush (10 : Int32) dX4_add_59 bp_10 ?_
    refine p_irem (by decide) dX4_add_61 ?_
    obtain ⟨s5, hs5, h⟩ := yb_bind h
    refine p_iast hs5 (sh_17 _ _) dX4_add_62 ?_
    refine n_aload_n (i := 0) dX4_add_63 rfl rfl ?_
    refine p_getr fl_X4_24 (sh_13 _ _) rfl (rR_13_5 _ _) dX4_add_64 ?_
    refine n_aload_n (i := 0) dX4_add_67 rfl rfl ?_
    refine p_geti fl_X4_33 (sh_13 _ _) rfl dX4_add_68 ?_
    refine n_iload_n (i := 3) dX4_add_71 rfl rfl ?_
    refine n_sipush (1000 : Int32) dX4_add_72 sp_1000 ?_
    refine n_idiv dX4_add_75 (by decide) ?_
    obtain ⟨s6, hs6, h⟩ := yb_bind h
    refine p_iast hs6 (sh_18 _ _) dX4_add_76 ?_
    refine n_aload_n (i := 0) dX4_add_77 rfl rfl ?_
    refine p_getr fl_X4_27 (sh_13 _ _) rfl (rR_13_6 _ _) dX4_add_78 ?_
    refine n_aload_n (i := 0) dX4_add_81 rfl rfl ?_
    refine p_geti fl_X4_33 (sh_13 _ _) rfl dX4_add_82 ?_
    refine n_iload_n (i := 3) dX4_add_85 rfl rfl ?_
    refine n_sipush (1000 : Int32) dX4_add_86 sp_1000 ?_
    refine p_irem (by decide) dX4_add_89 ?_
    obtain ⟨s7, hs7, h⟩ := yb_bind h
    refine p_iast hs7 (sh_19 _ _) dX4_add_90 ?_
    refine n_aload_n (i := 0) dX4_add_91 rfl rfl ?_
    refine p_getr fl_X4_30 (sh_13 _ _) rfl (rR_13_7 _ _) dX4_add_92 ?_
    refine n_aload_n (i := 0) dX4_add_95 rfl rfl ?_
    refine p_geti fl_X4_33 (sh_13 _ _) rfl dX4_add_96 ?_
    refine n_iconst (-1 : Int32) dX4_add_99 ic_m1 ?_
    obtain ⟨s8, hs8, h⟩ := yb_bind h
    refine p_iast hs8 (sh_20 _ _) dX4_add_100 ?_
    refine n_aload_n (i := 0) dX4_add_101 rfl rfl ?_
    refine n_dup dX4_add_102 rfl ?_
    refine p_geti fl_X4_33 (sh_13 _ _) rfl dX4_add_103 ?_
    refine n_iconst (1 : Int32) dX4_add_106 ic_1 ?_
    refine n_iadd dX4_add_107 ?_
    obtain ⟨s9, hs9, h⟩ := yb_bind h
    refine p_puti hs9 fp_X4_33 (sh_13 _ _) rfl rfl rfl dX4_add_108 ?_
    refine n_aload_n (i := 0) dX4_add_111 rfl rfl ?_
    refine p_geti fl_X4_33 (sh_13 _ _) rfl dX4_add_112 ?_
    refine n_iconst (1 : Int32) dX4_add_115 ic_1 ?_
    refine n_isub dX4_add_116 ?_
    cases h
    exact n_iret dX4_add_117 rfl rfl (Nat.le_refl _) (Nat.le_refl _) ⟨rfl, rfl⟩
  · have h := yb_ifn c1 h
    refine n_iconst (-1 : Int32) dX4_add_9 ic_m1 ?_
    cases h
    exact n_iret dX4_add_10 rfl rfl (Nat.le_refl _) (Nat.le_refl _) ⟨rfl, rfl⟩
set_option maxHeartbeats 4000000 in
set_option maxRecDepth 20000 in
theorem t_X11_home {G : yb_G} {X : List (FieldType × Nat)} {a1 : Int32} {a2 : Int32} {a3 : Int32} {s : yb_S} {out : (Int32 × yb_S)} (h : f_X11_home a1 a2 a3 s = some out) : Ct G yX11_home cX11_home 5 (Option.some .int) (yb_rm 2) [.ref (yb_ad G 0), .int a1, .int a2, .int a3] (yb_mk s X) (yb_qi X out.2 out.1) := by
  refine Ct.of (own := RX11) (ini := false) (vs := [some (.ref (yb_ad G 0)), some (.int a1), some (.int a2), some (.int a3), none]) ⟨rfl, by decide +kernel⟩ (fun h => by cases h) (Nat.le_of_ble_eq_true rfl) rfl ?_
  unfold f_X11_home at h
  refine n_aload_n (i := 0) dX11_home_0 rfl rfl ?_
  refine p_getr fl_X11_10 (sh_0 _ _) rfl (rR_0_0 _ _) dX11_home_1 ?_
  refine p_getr fl_X11_53 (sh_1 _ _) rfl (rR_1_0 _ _) dX11_home_4 ?_
  refine n_iload_n (i := 1) dX11_home_7 rfl rfl ?_
  obtain ⟨q1, hq1, h⟩ := yb_bind h
  refine p_callVi (As := [.int a1]) (t_X10_has hq1) cv_X11_63 (sh_2 _ _) rfl rfl (Nat.le_of_ble_eq_true rfl) dX11_home_8 (yb_rok (Nat.le_of_ble_eq_true rfl) (by decide)) ⟨rfl, rfl⟩ ⟨Nat.le_refl _, Nat.le_refl _⟩ (fun k2 => ?_)
  refine n_if_eq 28 dX11_home_11 (by decide) (fun c3 => ?_) (fun c3 => ?_)
  · have h := yb_ifp c3 h
    refine n_iconst (-1 : Int32) dX11_home_28 ic_m1 ?_
    cases h
    exact n_iret dX11_home_29 rfl rfl (Nat.le_refl _) (Nat.le_refl _) ⟨rfl, rfl⟩
  · have h := yb_ifn c3 h
    refine n_iload_n (i := 2) dX11_home_14 rfl rfl ?_
    obtain ⟨q4, hq4, h⟩ := yb_bind h
    refine p_callSi (As := [.int a2]) (t_X11_canBeHome hq4) cs_X11_71 rfl rfl (Nat.le_of_ble_eq_true rfl) dX11_home_15 (yb_rok (Nat.le_of_ble_eq_true rfl) (by decide)) ⟨rfl, rfl⟩ ⟨Nat.le_refl _, Nat.le_refl _⟩ (fun k5 => ?_)
    refine n_if_eq 28 dX11_home_18 (by decide) (fun c6 => ?_) (fun c6 => ?_)
    · have h := yb_ifp c6 h
      refine n_iconst (-1 : Int32) dX11_home_28 ic_m1 ?_
      cases h
      exact n_iret dX11_home_29 rfl rfl (Nat.le_refl _) (Nat.le_refl _) ⟨rfl, rfl⟩
    · have h := yb_ifn c6 h
      refine n_iload_n (i := 3) dX11_home_21 rfl rfl ?_
      obtain ⟨q7, hq7, h⟩ := yb_bind h
      refine p_callSi (As := [.int a3]) (t_X11_canBeDays hq7) cs_X11_74 rfl rfl (Nat.le_of_ble_eq_true rfl) dX11_home_22 (yb_rok (Nat.le_of_ble_eq_true rfl) (by decide)) ⟨rfl, rfl⟩ ⟨Nat.le_refl _, Nat.le_refl _⟩ (fun k8 => ?_)
      refine n_if_ne 30 dX11_home_25 (by decide) (fun c9 => ?_) (fun c9 => ?_)
      · have h := yb_ifn c9 h
        refine n_aload_n (i := 0) dX11_home_30 rfl rfl ?_
        refine p_getr fl_X11_10 (sh_0 _ _) rfl (rR_0_0 _ _) dX11_home_31 ?_
        refine p_getr fl_X11_77 (sh_1 _ _) rfl (rR_1_1 _ _) dX11_home_34 ?_
        refine n_iload_n (i := 1) dX11_home_37 rfl rfl ?_
        refine n_iload_n (i := 2) dX11_home_38 rfl rfl ?_
        refine n_iload_n (i := 3) dX11_home_39 rfl rfl ?_
        obtain ⟨q10, hq10, h⟩ := yb_bind h
        refine p_callVi (As := [.int a1, .int a2, .int a3]) (t_X4_add hq10) cv_X11_81 (sh_13 _ _) rfl rfl (Nat.le_of_ble_eq_true rfl) dX11_home_40 (yb_rok (Nat.le_of_ble_eq_true rfl) (by decide)) ⟨rfl, rfl⟩ ⟨Nat.le_refl _, Nat.le_refl _⟩ (fun k11 => ?_)
        refine n_istore (i := 4) (vs' := [some (.ref (yb_ad G 0)), some (.int a1), some (.int a2), some (.int a3), some (.int q10.1)]) dX11_home_43 (Nat.le_of_ble_eq_true rfl) rfl rfl ?_
        refine n_iload dX11_home_45 rfl ?_
        refine n_iconst (-1 : Int32) dX11_home_47 ic_m1 ?_
        refine n_icmp_eq 70 dX11_home_48 (by decide) (fun c12 => ?_) (fun c12 => ?_)
        · have h := yb_ifp c12 h
          refine n_iload dX11_home_70 rfl ?_
          cases h
          exact n_iret dX11_home_72 rfl rfl (Nat.le_refl _) (Nat.le_refl _) ⟨rfl, rfl⟩
        · have h := yb_ifn c12 h
          refine n_aload_n (i := 0) dX11_home_51 rfl rfl ?_
          refine p_getr fl_X11_10 (sh_0 _ _) rfl (rR_0_0 _ _) dX11_home_52 ?_
          refine p_getr fl_X11_53 (sh_1 _ _) rfl (rR_1_0 _ _) dX11_home_55 ?_
          refine p_getr fl_X11_86 (sh_2 _ _) rfl (rR_2_6 _ _) dX11_home_58 ?_
          refine n_iload_n (i := 1) dX11_home_61 rfl rfl ?_
          refine n_dup2 dX11_home_62 rfl rfl ?_
          obtain ⟨v13, hv13, h⟩ := yb_bind h
          refine p_iald hv13 (sh_8 _ _) dX11_home_63 ?_
          refine n_iload_n (i := 2) dX11_home_64 rfl rfl ?_
          refine n_bipush (100 : Int32) dX11_home_65 bp_100 ?_
          refine n_idiv dX11_home_67 (by decide) ?_
          refine n_iadd dX11_home_68 ?_
          obtain ⟨s14, hs14, h⟩ := yb_bind h
          refine p_iast hs14 (sh_8 _ _) dX11_home_69 ?_
          refine n_iload dX11_home_70 rfl ?_
          cases h
          exact n_iret dX11_home_72 rfl rfl (Nat.le_refl _) (Nat.le_refl _) ⟨rfl, rfl⟩
      · have h := yb_ifp c9 h
        refine n_iconst (-1 : Int32) dX11_home_28 ic_m1 ?_
        cases h
        exact n_iret dX11_home_29 rfl rfl (Nat.le_refl _) (Nat.le_refl _) ⟨rfl, rfl⟩
set_option maxHeartbeats 4000000 in
set_option maxRecDepth 20000 in
theorem t_X11_is {G : yb_G} {X : List (FieldType × Nat)} {a1 : Int32} {a2 : Int32} {s : yb_S} {out : (Int32 × yb_S)} (h : f_X11_is a1 a2 s = some out) : Ct G yX11_is cX11_is 4 (Option.some .int) (yb_rm 6) [.ref (yb_ad G 0), .int a1, .int a2] (yb_mk s X) (yb_qi X out.2 out.1) := by
  refine Ct.of (own := RX11) (ini := false) (vs := [some (.ref (yb_ad G 0)), some (.int a1), some (.int a2), none]) ⟨rfl, by decide +kernel⟩ (fun h => by cases h) (Nat.le_of_ble_eq_true rfl) rfl ?_
  unfold f_X11_is at h
  refine n_aload_n (i := 0) dX11_is_0 rfl rfl ?_
  refine p_getr fl_X11_10 (sh_0 _ _) rfl (rR_0_0 _ _) dX11_is_1 ?_
  refine p_getr fl_X11_53 (sh_1 _ _) rfl (rR_1_0 _ _) dX11_is_4 ?_
  refine n_astore_n (i := 3) (vs' := [some (.ref (yb_ad G 0)), some (.int a1), some (.int a2), some (.ref (yb_ad G 2))]) dX11_is_7 rfl (Nat.le_of_ble_eq_true rfl) rfl rfl ?_
  refine n_aload_n (i := 3) dX11_is_8 rfl rfl ?_
  refine n_iload_n (i := 1) dX11_is_9 rfl rfl ?_
  obtain ⟨q1, hq1, h⟩ := yb_bind h
  refine p_callVi (As := [.int a1]) (t_X10_has hq1) cv_X11_63 (sh_2 _ _) rfl rfl (Nat.le_of_ble_eq_true rfl) dX11_is_10 (yb_rok (Nat.le_of_ble_eq_true rfl) (by decide)) ⟨rfl, rfl⟩ ⟨Nat.le_refl _, Nat.le_refl _⟩ (fun k2 => ?_)
  refine n_if_ne 18 dX11_is_13 (by decide) (fun c3 => ?_) (fun c3 => ?_)
  · have h := yb_ifn c3 h
    refine n_iload_n (i := 2) dX11_is_18 rfl rfl ?_
    by_cases c4 : a2 = (0 : Int32)
    · have h := yb_ifp c4 h
      refine n_tableIn (off := 37) 56 dX11_is_19 (by rw [c4]; decide) (by rw [c4]; decide) (by rw [c4]; decide) (by decide) ?_
      refine n_aload_n (i := 3) dX11_is_56 rfl rfl ?_
      refine p_getr fl_X11_348 (sh_2 _ _) rfl (rR_2_1 _ _) dX11_is_57 ?_
      refine n_iload_n (i := 1) dX11_is_60 rfl rfl ?_
      obtain ⟨v10, hv10, h⟩ := yb_bind h
      refine p_iald hv10 (sh_3 _ _) dX11_is_61 ?_
      cases h
      exact n_iret dX11_is_62 rfl rfl (Nat.le_refl _) (Nat.le_refl _) ⟨rfl, rfl⟩
    · have h := yb_ifn c4 h
      by_cases c5 : a2 = (1 : Int32)
      · have h := yb_ifp c5 h
        refine n_tableIn (off := 44) 63 dX11_is_19 (by rw [c5]; decide) (by rw [c5]; decide) (by rw [c5]; decide) (by decide) ?_
        refine n_aload_n (i := 3) dX11_is_63 rfl rfl ?_
        refine p_getr fl_X11_351 (sh_2 _ _) rfl (rR_2_7 _ _) dX11_is_64 ?_
        refine n_iload_n (i := 1) dX11_is_67 rfl rfl ?_
        obtain ⟨v11, hv11, h⟩ := yb_bind h
        refine p_iald hv11 (sh_9 _ _) dX11_is_68 ?_
        cases h
        exact n_iret dX11_is_69 rfl rfl (Nat.le_refl _) (Nat.le_refl _) ⟨rfl, rfl⟩
      · have h := yb_ifn c5 h
        by_cases c6 : a2 = (2 : Int32)
        · have h := yb_ifp c6 h
          refine n_tableIn (off := 51) 70 dX11_is_19 (by rw [c6]; decide) (by rw [c6]; decide) (by rw [c6]; decide) (by decide) ?_
          refine n_aload_n (i := 3) dX11_is_70 rfl rfl ?_
          refine p_getr fl_X11_352 (sh_2 _ _) rfl (rR_2_3 _ _) dX11_is_71 ?_
          refine n_iload_n (i := 1) dX11_is_74 rfl rfl ?_
          obtain ⟨v12, hv12, h⟩ := yb_bind h
          refine p_iald hv12 (sh_5 _ _) dX11_is_75 ?_
          refine n_aload_n (i := 3) dX11_is_76 rfl rfl ?_
          refine p_getr fl_X11_355 (sh_2 _ _) rfl (rR_2_8 _ _) dX11_is_77 ?_
          refine n_iload_n (i := 1) dX11_is_80 rfl rfl ?_
          obtain ⟨v13, hv13, h⟩ := yb_bind h
          refine p_iald hv13 (sh_10 _ _) dX11_is_81 ?_
          refine n_isub dX11_is_82 ?_
          cases h
          exact n_iret dX11_is_83 rfl rfl (Nat.le_refl _) (Nat.le_refl _) ⟨rfl, rfl⟩
        · have h := yb_ifn c6 h
          by_cases c7 : a2 = (3 : Int32)
          · have h := yb_ifp c7 h
            refine n_tableIn (off := 65) 84 dX11_is_19 (by rw [c7]; decide) (by rw [c7]; decide) (by rw [c7]; decide) (by decide) ?_
            refine n_ldc2 (2000000000 : Int64) k_X11_358 dX11_is_84 ?_
            refine n_aload_n (i := 3) dX11_is_87 rfl rfl ?_
            refine p_getr fl_X11_360 (sh_2 _ _) rfl (rR_2_10 _ _) dX11_is_88 ?_
            refine n_iload_n (i := 1) dX11_is_91 rfl rfl ?_
            obtain ⟨v14, hv14, h⟩ := yb_bind h
            refine p_lald hv14 (sh_12 _ _) dX11_is_92 ?_
            refine n_mminl cs_X11_364 (Nat.le_of_ble_eq_true rfl) dX11_is_93 ⟨Nat.le_of_ble_eq_true rfl, Nat.le_of_ble_eq_true rfl⟩ ⟨Nat.le_refl _, Nat.le_refl _⟩ ?_
            refine n_l2i dX11_is_96 ?_
            cases h
            exact n_iret dX11_is_97 rfl rfl (Nat.le_refl _) (Nat.le_refl _) ⟨rfl, rfl⟩
          · have h := yb_ifn c7 h
            by_cases c8 : a2 = (4 : Int32)
            · have h := yb_ifp c8 h
              refine n_tableIn (off := 79) 98 dX11_is_19 (by rw [c8]; decide) (by rw [c8]; decide) (by rw [c8]; decide) (by decide) ?_
              refine n_aload_n (i := 3) dX11_is_98 rfl rfl ?_
              refine p_getr fl_X11_67 (sh_2 _ _) rfl (rR_2_5 _ _) dX11_is_99 ?_
              refine n_iload_n (i := 1) dX11_is_102 rfl rfl ?_
              obtain ⟨v15, hv15, h⟩ := yb_bind h
              refine p_zald hv15 (sh_7 _ _) dX11_is_103 ?_
              refine n_if_eq 111 dX11_is_104 (by decide) (fun c16 => ?_) (fun c16 => ?_)
              · have h := yb_ifp c16 h
                refine n_iconst (0 : Int32) dX11_is_111 ic_0 ?_
                cases h
                exact n_iret dX11_is_112 rfl rfl (Nat.le_refl _) (Nat.le_refl _) ⟨rfl, rfl⟩
              · have h := yb_ifn c16 h
                refine n_iconst (1 : Int32) dX11_is_107 ic_1 ?_
                refine n_goto 112 dX11_is_108 (by decide) ?_
                cases h
                exact n_iret dX11_is_112 rfl rfl (Nat.le_refl _) (Nat.le_refl _) ⟨rfl, rfl⟩
            · have h := yb_ifn c8 h
              by_cases c9 : a2 = (5 : Int32)
              · have h := yb_ifp c9 h
                refine n_tableIn (off := 94) 113 dX11_is_19 (by rw [c9]; decide) (by rw [c9]; decide) (by rw [c9]; decide) (by decide) ?_
                refine n_iconst (0 : Int32) dX11_is_113 ic_0 ?_
                refine n_aload_n (i := 0) dX11_is_114 rfl rfl ?_
                refine p_getr fl_X11_10 (sh_0 _ _) rfl (rR_0_0 _ _) dX11_is_115 ?_
                refine n_iload_n (i := 1) dX11_is_118 rfl rfl ?_
                obtain ⟨q17, hq17, h⟩ := yb_bind h
                refine p_callVi (As := [.int a1]) (t_X8_lackOf hq17) cv_X11_220 (sh_1 _ _) rfl rfl (Nat.le_of_ble_eq_true rfl) dX11_is_119 (yb_rok (Nat.le_of_ble_eq_true rfl) (by decide)) ⟨rfl, rfl⟩ ⟨Nat.le_refl _, Nat.le_refl _⟩ (fun k18 => ?_)
                refine n_mmax cs_X11_370 (Nat.le_of_ble_eq_true rfl) dX11_is_122 ⟨Nat.le_of_ble_eq_true rfl, Nat.le_of_ble_eq_true rfl⟩ ⟨Nat.le_refl _, Nat.le_refl _⟩ ?_
                cases h
                exact n_iret dX11_is_125 rfl rfl (Nat.le_refl _) (Nat.le_refl _) ⟨rfl, rfl⟩
              · have h := yb_ifn c9 h
                refine n_tableOut 126 dX11_is_19 (by have z0 := lv_neT c4 (a := 0) (by decide); have z1 := lv_neT c5 (a := 1) (by decide); have z2 := lv_neT c6 (a := 2) (by decide); have z3 := lv_neT c7 (a := 3) (by decide); have z4 := lv_neT c8 (a := 4) (by decide); have z5 := lv_neT c9 (a := 5) (by decide); omega) (by decide) ?_
                refine n_iconst (-1 : Int32) dX11_is_126 ic_m1 ?_
                cases h
                exact n_iret dX11_is_127 rfl rfl (Nat.le_refl _) (Nat.le_refl _) ⟨rfl, rfl⟩
  · have h := yb_ifp c3 h
    refine n_iconst (-1 : Int32) dX11_is_16 ic_m1 ?_
    cases h
    exact n_iret dX11_is_17 rfl rfl (Nat.le_refl _) (Nat.le_refl _) ⟨rfl, rfl⟩
set_option maxHeartbeats 4000000 in
set_option maxRecDepth 20000 in
theorem tj_X7_canBeOneHeap_55 {G : yb_G} {X : List (FieldType × Nat)} {rc2 : (Int32 → Option Int32)} {rc13 : (Int32 → Option Int32)} {x1 : Int32} {x2 : Int32} {x3 : Int32} {x4 : Int32} {s : yb_S} {out : Int32} (hrc2 : ∀ (x3' : Int32), rc2 x3' = some out → Rn G RX7 cX7_canBeOneHeap 5 (Option.some .boolean) false (yb_rm 3) (yb_qi X s out) 0 0 2 [some (.ref (yb_ad G 41)), some (.int x1), some (.int x2), some (.int x3'), none] [] (yb_mk s X)) (hrc13 : ∀ (x4' : Int32), rc13 x4' = some out → Rn G RX7 cX7_canBeOneHeap 5 (Option.some .boolean) false (yb_rm 3) (yb_qi X s out) 0 0 13 [some (.ref (yb_ad G 41)), some (.int x1), some (.int x2), some (.int x3), some (.int x4')] [] (yb_mk s X)) (h : j_X7_canBeOneHeap_55 rc2 rc13 x1 x2 x3 x4 s = some out) : Rn G RX7 cX7_canBeOneHeap 5 (Option.some .boolean) false (yb_rm 3) (yb_qi X s out) 0 0 55 [some (.ref (yb_ad G 41)), some (.int x1), some (.int x2), some (.int x3), some (.int x4)] [] (yb_mk s X) := by
  unfold j_X7_canBeOneHeap_55 at h
  refine n_iinc (vs' := [some (.ref (yb_ad G 41)), some (.int x1), some (.int x2), some (.int x3), some (.int (x4 + (1 : Int32)))]) dX7_canBeOneHeap_55 rfl (ii_1 _) (Nat.le_of_ble_eq_true rfl) rfl rfl ?_
  refine n_goto 13 dX7_canBeOneHeap_58 (by decide) ?_
  exact p_jump (hrc13 (x4 + (1 : Int32)) h) (And.intro rfl (And.intro rfl (And.intro rfl (And.intro rfl (And.intro rfl trivial)))))
set_option maxHeartbeats 4000000 in
set_option maxRecDepth 20000 in
theorem t_l_X7_canBeOneHeap_13 {G : yb_G} {X : List (FieldType × Nat)} {rc2 : (Int32 → Option Int32)} {x1 : Int32} {x2 : Int32} {x3 : Int32} {s : yb_S} {out : Int32} (hrc2 : ∀ (x3' : Int32), rc2 x3' = some out → Rn G RX7 cX7_canBeOneHeap 5 (Option.some .boolean) false (yb_rm 3) (yb_qi X s out) 0 0 2 [some (.ref (yb_ad G 41)), some (.int x1), some (.int x2), some (.int x3'), none] [] (yb_mk s X)) : ∀ (k0 : Nat) (x4 : Int32), l_X7_canBeOneHeap_13 rc2 x1 x2 x3 s k0 x4 = some out → Rn G RX7 cX7_canBeOneHeap 5 (Option.some .boolean) false (yb_rm 3) (yb_qi X s out) 0 0 13 [some (.ref (yb_ad G 41)), some (.int x1), some (.int x2), some (.int x3), some (.int x4)] [] (yb_mk s X) := by
  intro k0
  induction k0 with
  | zero => intro x4 h; cases h
  | succ k0 ih =>
    intro x4 h
    have h : f_X7_canBeOneHeap_13 rc2 (fun x4 => l_X7_canBeOneHeap_13 rc2 x1 x2 x3 s k0 x4) x1 x2 x3 s x4 = some out := h
    have hrc13 := ih
    unfold f_X7_canBeOneHeap_13 at h
    refine n_iload dX7_canBeOneHeap_13 rfl ?_
    refine n_aload_n (i := 0) dX7_canBeOneHeap_15 rfl rfl ?_
    refine p_geti fl_X7_48 (sh_41 _ _) rfl dX7_canBeOneHeap_16 ?_
    refine n_icmp_ge 61 dX7_canBeOneHeap_19 (by decide) (fun c2 => ?_) (fun c2 => ?_)
    · have h := yb_ifp c2 h
      refine n_iinc (vs' := [some (.ref (yb_ad G 41)), some (.int x1), some (.int x2), some (.int (x3 + (1 : Int32))), some (.int x4)]) dX7_canBeOneHeap_61 rfl (ii_1 _) (Nat.le_of_ble_eq_true rfl) rfl rfl ?_
      refine n_goto 2 dX7_canBeOneHeap_64 (by decide) ?_
      exact p_jump (hrc2 (x3 + (1 : Int32)) h) (And.intro rfl (And.intro rfl (And.intro rfl (And.intro rfl trivial))))
    · have h := yb_ifn c2 h
      refine n_aload_n (i := 0) dX7_canBeOneHeap_22 rfl rfl ?_
      refine p_getr fl_X7_30 (sh_41 _ _) rfl (rR_41_7 _ _) dX7_canBeOneHeap_23 ?_
      refine n_iload_n (i := 3) dX7_canBeOneHeap_26 rfl rfl ?_
      obtain ⟨v3, hv3, h⟩ := yb_bind h
      refine p_iald hv3 (sh_48 _ _) dX7_canBeOneHeap_27 ?_
      refine n_iload_n (i := 1) dX7_canBeOneHeap_28 rfl rfl ?_
      refine n_icmp_ne 55 dX7_canBeOneHeap_29 (by decide) (fun c4 => ?_) (fun c4 => ?_)
      · have h := yb_ifn c4 h
        exact p_jump (tj_X7_canBeOneHeap_55 hrc2 hrc13 h) (And.intro rfl (And.intro rfl (And.intro rfl (And.intro rfl (And.intro rfl trivial)))))
      · have h := yb_ifp c4 h
        refine n_aload_n (i := 0) dX7_canBeOneHeap_32 rfl rfl ?_
        refine p_getr fl_X7_30 (sh_41 _ _) rfl (rR_41_7 _ _) dX7_canBeOneHeap_33 ?_
        refine n_iload dX7_canBeOneHeap_36 rfl ?_
        obtain ⟨v5, hv5, h⟩ := yb_bind h
        refine p_iald hv5 (sh_48 _ _) dX7_canBeOneHeap_38 ?_
        refine n_iload_n (i := 2) dX7_canBeOneHeap_39 rfl rfl ?_
        refine n_icmp_ne 55 dX7_canBeOneHeap_40 (by decide) (fun c6 => ?_) (fun c6 => ?_)
        · have h := yb_ifn c6 h
          exact p_jump (tj_X7_canBeOneHeap_55 hrc2 hrc13 h) (And.intro rfl (And.intro rfl (And.intro rfl (And.intro rfl (And.intro rfl trivial)))))
        · have h := yb_ifp c6 h
          refine n_aload_n (i := 0) dX7_canBeOneHeap_43 rfl rfl ?_
          refine n_iload_n (i := 3) dX7_canBeOneHeap_44 rfl rfl ?_
          refine n_iload dX7_canBeOneHeap_45 rfl ?_
          obtain ⟨q7, hq7, h⟩ := yb_bind h
          refine p_callVi (As := [.int x3, .int x4]) (t_X7_canBeAlike hq7) cv_X7_70 (sh_41 _ _) rfl rfl (Nat.le_of_ble_eq_true rfl) dX7_canBeOneHeap_47 (yb_rok (Nat.le_of_ble_eq_true rfl) (by decide)) ⟨rfl, rfl⟩ ⟨Nat.le_refl _, Nat.le_refl _⟩ (fun k8 => ?_)
          refine n_if_ne 55 dX7_canBeOneHeap_50 (by decide) (fun c9 => ?_) (fun c9 => ?_)
          · have h := yb_ifn c9 h
            exact p_jump (tj_X7_canBeOneHeap_55 hrc2 hrc13 h) (And.intro rfl (And.intro rfl (And.intro rfl (And.intro rfl (And.intro rfl trivial)))))
          · have h := yb_ifp c9 h
            refine n_iconst (0 : Int32) dX7_canBeOneHeap_53 ic_0 ?_
            cases h
            exact n_iret dX7_canBeOneHeap_54 rfl (by decide) (Nat.le_refl _) (Nat.le_refl _) ⟨rfl, rfl⟩
set_option maxHeartbeats 4000000 in
set_option maxRecDepth 20000 in
theorem tl_X7_canBeOneHeap_13 {G : yb_G} {X : List (FieldType × Nat)} {rc2 : (Int32 → Option Int32)} {x1 : Int32} {x2 : Int32} {x3 : Int32} {s : yb_S} {out : Int32} (hrc2 : ∀ (x3' : Int32), rc2 x3' = some out → Rn G RX7 cX7_canBeOneHeap 5 (Option.some .boolean) false (yb_rm 3) (yb_qi X s out) 0 0 2 [some (.ref (yb_ad G 41)), some (.int x1), some (.int x2), some (.int x3'), none] [] (yb_mk s X)) {x4 : Int32} (h : l_X7_canBeOneHeap_13 rc2 x1 x2 x3 s yb_N x4 = some out) : Rn G RX7 cX7_canBeOneHeap 5 (Option.some .boolean) false (yb_rm 3) (yb_qi X s out) 0 0 13 [some (.ref (yb_ad G 41)), some (.int x1), some (.int x2), some (.int x3), some (.int x4)] [] (yb_mk s X) := t_l_X7_canBeOneHeap_13 hrc2 _ _ h
set_option maxHeartbeats 4000000 in
set_option maxRecDepth 20000 in
theorem t_l_X7_canBeOneHeap_2 {G : yb_G} {X : List (FieldType × Nat)} {x1 : Int32} {x2 : Int32} {s : yb_S} {out : Int32} : ∀ (k0 : Nat) (x3 : Int32), l_X7_canBeOneHeap_2 x1 x2 s k0 x3 = some out → Rn G RX7 cX7_canBeOneHeap 5 (Option.some .boolean) false (yb_rm 3) (yb_qi X s out) 0 0 2 [some (.ref (yb_ad G 41)), some (.int x1), some (.int x2), some (.int x3), none] [] (yb_mk s X) := by
  intro k0
  induction k0 with
  | zero => intro x3 h; cases h
  | succ k0 ih =>
    intro x3 h
    have h : f_X7_canBeOneHeap_2 (fun x3 => l_X7_canBeOneHeap_2 x1 x2 s k0 x3) x1 x2 s x3 = some out := h
    have hrc2 := ih
    unfold f_X7_canBeOneHeap_2 at h
    refine n_iload_n (i := 3) dX7_canBeOneHeap_2 rfl rfl ?_
    refine n_aload_n (i := 0) dX7_canBeOneHeap_3 rfl rfl ?_
    refine p_geti fl_X7_48 (sh_41 _ _) rfl dX7_canBeOneHeap_4 ?_
    refine n_icmp_ge 67 dX7_canBeOneHeap_7 (by decide) (fun c1 => ?_) (fun c1 => ?_)
    · have h := yb_ifp c1 h
      refine n_iconst (1 : Int32) dX7_canBeOneHeap_67 ic_1 ?_
      cases h
      exact n_iret dX7_canBeOneHeap_68 rfl (by decide) (Nat.le_refl _) (Nat.le_refl _) ⟨rfl, rfl⟩
    · have h := yb_ifn c1 h
      refine n_iconst (0 : Int32) dX7_canBeOneHeap_10 ic_0 ?_
      refine n_istore (i := 4) (vs' := [some (.ref (yb_ad G 41)), some (.int x1), some (.int x2), some (.int x3), some (.int (0 : Int32))]) dX7_canBeOneHeap_11 (Nat.le_of_ble_eq_true rfl) rfl rfl ?_
      exact p_jump (tl_X7_canBeOneHeap_13 hrc2 h) (And.intro rfl (And.intro rfl (And.intro rfl (And.intro rfl (And.intro rfl trivial)))))
set_option maxHeartbeats 4000000 in
set_option maxRecDepth 20000 in
theorem tl_X7_canBeOneHeap_2 {G : yb_G} {X : List (FieldType × Nat)} {x1 : Int32} {x2 : Int32} {s : yb_S} {out : Int32} {x3 : Int32} (h : l_X7_canBeOneHeap_2 x1 x2 s yb_N x3 = some out) : Rn G RX7 cX7_canBeOneHeap 5 (Option.some .boolean) false (yb_rm 3) (yb_qi X s out) 0 0 2 [some (.ref (yb_ad G 41)), some (.int x1), some (.int x2), some (.int x3), none] [] (yb_mk s X) := t_l_X7_canBeOneHeap_2 _ _ h
set_option maxHeartbeats 4000000 in
set_option maxRecDepth 20000 in
theorem t_X7_canBeOneHeap {G : yb_G} {X : List (FieldType × Nat)} {a1 : Int32} {a2 : Int32} {s : yb_S} {out : Int32} (h : f_X7_canBeOneHeap a1 a2 s = some out) : Ct G yX7_canBeOneHeap cX7_canBeOneHeap 5 (Option.some .boolean) (yb_rm 3) [.ref (yb_ad G 41), .int a1, .int a2] (yb_mk s X) (yb_qi X s out) := by
  refine Ct.of (own := RX7) (ini := false) (vs := [some (.ref (yb_ad G 41)), some (.int a1), some (.int a2), none, none]) ⟨rfl, by decide +kernel⟩ (fun h => by cases h) (Nat.le_of_ble_eq_true rfl) rfl ?_
  unfold f_X7_canBeOneHeap at h
  refine n_iconst (0 : Int32) dX7_canBeOneHeap_0 ic_0 ?_
  refine n_istore_n (i := 3) (vs' := [some (.ref (yb_ad G 41)), some (.int a1), some (.int a2), some (.int (0 : Int32)), none]) dX7_canBeOneHeap_1 rfl (Nat.le_of_ble_eq_true rfl) rfl rfl ?_
  exact p_jump (tl_X7_canBeOneHeap_2 h) (And.intro rfl (And.intro rfl (And.intro rfl (And.intro rfl trivial))))
set_option maxHeartbeats 4000000 in
set_option maxRecDepth 20000 in
theorem tj_X7_noteIfFound_103 {G : yb_G} {X : List (FieldType × Nat)} {rc72 : (Int32 → yb_S → Option yb_S)} {x3 : Int32} {x4 : Int32} {x5 : Int32} {s : yb_S} {out : yb_S} (hrc72 : ∀ (x5' : Int32) (s' : yb_S), rc72 x5' s' = some out → Rn G RX7 cX7_noteIfFound 6 none false (yb_rm 3) (yb_qv X out) 0 0 72 [some (.ref (yb_ad G 41)), none, none, some (.int x3), some (.int x4), some (.int x5')] [] (yb_mk s' X)) (h : j_X7_noteIfFound_103 rc72 x3 x4 x5 s = some out) : Rn G RX7 cX7_noteIfFound 6 none false (yb_rm 3) (yb_qv X out) 0 0 103 [some (.ref (yb_ad G 41)), none, none, some (.int x3), some (.int x4), some (.int x5)] [] (yb_mk s X) := by
  unfold j_X7_noteIfFound_103 at h
  refine n_iinc (vs' := [some (.ref (yb_ad G 41)), none, none, some (.int x3), some (.int x4), some (.int (x5 + (1 : Int32)))]) dX7_noteIfFound_103 rfl (ii_1 _) (Nat.le_of_ble_eq_true rfl) rfl rfl ?_
  refine n_goto 72 dX7_noteIfFound_106 (by decide) ?_
  exact p_jump (hrc72 (x5 + (1 : Int32)) s h) (And.intro rfl (And.intro rfl (And.intro rfl (And.intro rfl trivial))))
set_option maxHeartbeats 4000000 in
set_option maxRecDepth 20000 in
theorem t_l_X7_noteIfFound_72 {G : yb_G} {X : List (FieldType × Nat)} {x3 : Int32} {x4 : Int32} {out : yb_S} : ∀ (k0 : Nat) (x5 : Int32) (s : yb_S), l_X7_noteIfFound_72 x3 x4 k0 x5 s = some out → Rn G RX7 cX7_noteIfFound 6 none false (yb_rm 3) (yb_qv X out) 0 0 72 [some (.ref (yb_ad G 41)), none, none, some (.int x3), some (.int x4), some (.int x5)] [] (yb_mk s X) := by
  intro k0
  induction k0 with
  | zero => intro x5 s h; cases h
  | succ k0 ih =>
    intro x5 s h
    have h : f_X7_noteIfFound_72 (fun x5 s => l_X7_noteIfFound_72 x3 x4 k0 x5 s) x3 x4 x5 s = some out := h
    have hrc72 := ih
    unfold f_X7_noteIfFound_72 at h
    refine n_iload dX7_noteIfFound_72 rfl ?_
    refine n_bipush (24 : Int32) dX7_noteIfFound_74 bp_24 ?_
    refine n_icmp_ge 109 dX7_noteIfFound_76 (by decide) (fun c14 => ?_) (fun c14 => ?_)
    · have h := yb_ifp c14 h
      cases h
      exact n_vret dX7_noteIfFound_109 rfl (Nat.le_refl _) (Nat.le_refl _) ⟨rfl, rfl⟩
    · have h := yb_ifn c14 h
      refine n_iload dX7_noteIfFound_79 rfl ?_
      refine n_iload dX7_noteIfFound_81 rfl ?_
      refine n_ishr dX7_noteIfFound_83 ?_
      refine n_iconst (1 : Int32) dX7_noteIfFound_84 ic_1 ?_
      refine n_iand dX7_noteIfFound_85 ?_
      refine n_iconst (1 : Int32) dX7_noteIfFound_86 ic_1 ?_
      refine n_icmp_ne 103 dX7_noteIfFound_87 (by decide) (fun c15 => ?_) (fun c15 => ?_)
      · have h := yb_ifn c15 h
        exact p_jump (tj_X7_noteIfFound_103 hrc72 h) (And.intro rfl (And.intro rfl (And.intro rfl (And.intro rfl trivial))))
      · have h := yb_ifp c15 h
        refine n_aload_n (i := 0) dX7_noteIfFound_90 rfl rfl ?_
        refine p_getr fl_X7_45 (sh_41 _ _) rfl (rR_41_13 _ _) dX7_noteIfFound_91 ?_
        refine n_iload dX7_noteIfFound_94 rfl ?_
        refine n_dup2 dX7_noteIfFound_96 rfl rfl ?_
        obtain ⟨v16, hv16, h⟩ := yb_bind h
        refine p_iald hv16 (sh_53 _ _) dX7_noteIfFound_97 ?_
        refine n_iconst (1 : Int32) dX7_noteIfFound_98 ic_1 ?_
        refine n_iload_n (i := 3) dX7_noteIfFound_99 rfl rfl ?_
        refine n_ishl dX7_noteIfFound_100 ?_
        refine n_ior dX7_noteIfFound_101 ?_
        obtain ⟨s17, hs17, h⟩ := yb_bind h
        refine p_iast hs17 (sh_53 _ _) dX7_noteIfFound_102 ?_
        exact p_jump (tj_X7_noteIfFound_103 hrc72 h) (And.intro rfl (And.intro rfl (And.intro rfl (And.intro rfl trivial))))
set_option maxHeartbeats 4000000 in
set_option maxRecDepth 20000 in
theorem tl_X7_noteIfFound_72 {G : yb_G} {X : List (FieldType × Nat)} {x3 : Int32} {x4 : Int32} {out : yb_S} {x5 : Int32} {s : yb_S} (h : l_X7_noteIfFound_72 x3 x4 yb_N x5 s = some out) : Rn G RX7 cX7_noteIfFound 6 none false (yb_rm 3) (yb_qv X out) 0 0 72 [some (.ref (yb_ad G 41)), none, none, some (.int x3), some (.int x4), some (.int x5)] [] (yb_mk s X) := t_l_X7_noteIfFound_72 _ _ _ h
set_option maxHeartbeats 4000000 in
set_option maxRecDepth 20000 in
theorem t_X7_noteIfFound {G : yb_G} {X : List (FieldType × Nat)} {a1 : Int32} {a2 : Int32} {s : yb_S} {out : yb_S} (h : f_X7_noteIfFound a1 a2 s = some out) : Ct G yX7_noteIfFound cX7_noteIfFound 6 none (yb_rm 3) [.ref (yb_ad G 41), .int a1, .int a2] (yb_mk s X) (yb_qv X out) := by
  refine Ct.of (own := RX7) (ini := false) (vs := [some (.ref (yb_ad G 41)), some (.int a1), some (.int a2), none, none, none]) ⟨rfl, by decide +kernel⟩ (fun h => by cases h) (Nat.le_of_ble_eq_true rfl) rfl ?_
  unfold f_X7_noteIfFound at h
  refine n_aload_n (i := 0) dX7_noteIfFound_0 rfl rfl ?_
  refine n_iload_n (i := 2) dX7_noteIfFound_1 rfl rfl ?_
  refine n_aload_n (i := 0) dX7_noteIfFound_2 rfl rfl ?_
  refine p_getr fl_X7_36 (sh_41 _ _) rfl (rR_41_10 _ _) dX7_noteIfFound_3 ?_
  refine n_iload_n (i := 1) dX7_noteIfFound_6 rfl rfl ?_
  obtain ⟨v1, hv1, h⟩ := yb_bind h
  refine p_iald hv1 (sh_50 _ _) dX7_noteIfFound_7 ?_
  refine n_aload_n (i := 0) dX7_noteIfFound_8 rfl rfl ?_
  refine p_getr fl_X7_39 (sh_41 _ _) rfl (rR_41_11 _ _) dX7_noteIfFound_9 ?_
  refine n_iload_n (i := 1) dX7_noteIfFound_12 rfl rfl ?_
  obtain ⟨v2, hv2, h⟩ := yb_bind h
  refine p_iald hv2 (sh_51 _ _) dX7_noteIfFound_13 ?_
  obtain ⟨q3, hq3, h⟩ := yb_bind h
  refine p_callVi (As := [.int a2, .int v1, .int v2]) (t_X7_points hq3) cv_X7_73 (sh_41 _ _) rfl rfl (Nat.le_of_ble_eq_true rfl) dX7_noteIfFound_14 (yb_rok (Nat.le_of_ble_eq_true rfl) (by decide)) ⟨rfl, rfl⟩ ⟨Nat.le_refl _, Nat.le_refl _⟩ (fun k4 => ?_)
  refine n_iconst (5 : Int32) dX7_noteIfFound_17 ic_5 ?_
  refine n_icmp_ge 22 dX7_noteIfFound_18 (by decide) (fun c5 => ?_) (fun c5 => ?_)
  · have h := yb_ifp c5 h
    refine n_aload_n (i := 0) dX7_noteIfFound_22 rfl rfl ?_
    refine p_getr fl_X7_33 (sh_41 _ _) rfl (rR_41_9 _ _) dX7_noteIfFound_23 ?_
    refine n_iload_n (i := 1) dX7_noteIfFound_26 rfl rfl ?_
    obtain ⟨v6, hv6, h⟩ := yb_bind h
    refine p_iald hv6 (sh_49 _ _) dX7_noteIfFound_27 ?_
    refine n_istore_n (i := 3) (vs' := [some (.ref (yb_ad G 41)), some (.int a1), some (.int a2), some (.int v6), none, none]) dX7_noteIfFound_28 rfl (Nat.le_of_ble_eq_true rfl) rfl rfl ?_
    refine n_aload_n (i := 0) dX7_noteIfFound_29 rfl rfl ?_
    refine n_aload_n (i := 0) dX7_noteIfFound_30 rfl rfl ?_
    refine p_getr fl_X7_30 (sh_41 _ _) rfl (rR_41_7 _ _) dX7_noteIfFound_31 ?_
    refine n_iload_n (i := 2) dX7_noteIfFound_34 rfl rfl ?_
    obtain ⟨v7, hv7, h⟩ := yb_bind h
    refine p_iald hv7 (sh_48 _ _) dX7_noteIfFound_35 ?_
    obtain ⟨q8, hq8, h⟩ := yb_bind h
    refine p_callVi (As := [.int v7]) (t_X7_familiesOf hq8) cv_X7_90 (sh_41 _ _) rfl rfl (Nat.le_of_ble_eq_true rfl) dX7_noteIfFound_36 (yb_rok (Nat.le_of_ble_eq_true rfl) (by decide)) ⟨rfl, rfl⟩ ⟨Nat.le_refl _, Nat.le_refl _⟩ (fun k9 => ?_)
    refine n_iconst (1 : Int32) dX7_noteIfFound_39 ic_1 ?_
    refine n_iload_n (i := 3) dX7_noteIfFound_40 rfl rfl ?_
    refine n_ishl dX7_noteIfFound_41 ?_
    refine n_iconst (-1 : Int32) dX7_noteIfFound_42 ic_m1 ?_
    refine n_ixor dX7_noteIfFound_43 ?_
    refine n_iand dX7_noteIfFound_44 ?_
    refine n_istore (i := 4) (vs' := [some (.ref (yb_ad G 41)), some (.int a1), some (.int a2), some (.int v6), some (.int (q8 &&& (((1 : Int32) <<< (v6 &&& 31)) ^^^ (-1 : Int32)))), none]) dX7_noteIfFound_45 (Nat.le_of_ble_eq_true rfl) rfl rfl ?_
    refine n_aload_n (i := 0) dX7_noteIfFound_47 rfl rfl ?_
    refine p_getr fl_X7_42 (sh_41 _ _) rfl (rR_41_12 _ _) dX7_noteIfFound_48 ?_
    refine n_iload_n (i := 3) dX7_noteIfFound_51 rfl rfl ?_
    refine n_dup2 dX7_noteIfFound_52 rfl rfl ?_
    obtain ⟨v10, hv10, h⟩ := yb_bind h
    refine p_iald hv10 (sh_52 _ _) dX7_noteIfFound_53 ?_
    refine n_iload dX7_noteIfFound_54 rfl ?_
    refine n_ior dX7_noteIfFound_56 ?_
    obtain ⟨s11, hs11, h⟩ := yb_bind h
    refine p_iast hs11 (sh_52 _ _) dX7_noteIfFound_57 ?_
    refine n_aload_n (i := 0) dX7_noteIfFound_58 rfl rfl ?_
    refine p_getr fl_X7_45 (sh_41 _ _) rfl (rR_41_13 _ _) dX7_noteIfFound_59 ?_
    refine n_iload_n (i := 3) dX7_noteIfFound_62 rfl rfl ?_
    refine n_dup2 dX7_noteIfFound_63 rfl rfl ?_
    obtain ⟨v12, hv12, h⟩ := yb_bind h
    refine p_iald hv12 (sh_53 _ _) dX7_noteIfFound_64 ?_
    refine n_iload dX7_noteIfFound_65 rfl ?_
    refine n_ior dX7_noteIfFound_67 ?_
    obtain ⟨s13, hs13, h⟩ := yb_bind h
    refine p_iast hs13 (sh_53 _ _) dX7_noteIfFound_68 ?_
    refine n_iconst (0 : Int32) dX7_noteIfFound_69 ic_0 ?_
    refine n_istore (i := 5) (vs' := [some (.ref (yb_ad G 41)), some (.int a1), some (.int a2), some (.int v6), some (.int (q8 &&& (((1 : Int32) <<< (v6 &&& 31)) ^^^ (-1 : Int32)))), some (.int (0 : Int32))]) dX7_noteIfFound_70 (Nat.le_of_ble_eq_true rfl) rfl rfl ?_
    exact p_jump (tl_X7_noteIfFound_72 h) (And.intro rfl (And.intro rfl (And.intro rfl (And.intro rfl trivial))))
  · have h := yb_ifn c5 h
    cases h
    exact n_vret dX7_noteIfFound_21 rfl (Nat.le_refl _) (Nat.le_refl _) ⟨rfl, rfl⟩
set_option maxHeartbeats 4000000 in
set_option maxRecDepth 20000 in
theorem t_l_X7_noteFinding_2 {G : yb_G} {X : List (FieldType × Nat)} {x1 : Int32} {out : yb_S} : ∀ (k0 : Nat) (x2 : Int32) (s : yb_S), l_X7_noteFinding_2 x1 k0 x2 s = some out → Rn G RX7 cX7_noteFinding 3 none false (yb_rm 4) (yb_qv X out) 0 0 2 [some (.ref (yb_ad G 41)), some (.int x1), some (.int x2)] [] (yb_mk s X) := by
  intro k0
  induction k0 with
  | zero => intro x2 s h; cases h
  | succ k0 ih =>
    intro x2 s h
    have h : f_X7_noteFinding_2 (fun x2 s => l_X7_noteFinding_2 x1 k0 x2 s) x1 x2 s = some out := h
    have hrc2 := ih
    unfold f_X7_noteFinding_2 at h
    refine n_iload_n (i := 2) dX7_noteFinding_2 rfl rfl ?_
    refine n_aload_n (i := 0) dX7_noteFinding_3 rfl rfl ?_
    refine p_geti fl_X7_83 (sh_41 _ _) rfl dX7_noteFinding_4 ?_
    refine n_icmp_ge 22 dX7_noteFinding_7 (by decide) (fun c1 => ?_) (fun c1 => ?_)
    · have h := yb_ifp c1 h
      cases h
      exact n_vret dX7_noteFinding_22 rfl (Nat.le_refl _) (Nat.le_refl _) ⟨rfl, rfl⟩
    · have h := yb_ifn c1 h
      refine n_aload_n (i := 0) dX7_noteFinding_10 rfl rfl ?_
      refine n_iload_n (i := 2) dX7_noteFinding_11 rfl rfl ?_
      refine n_iload_n (i := 1) dX7_noteFinding_12 rfl rfl ?_
      obtain ⟨q2, hq2, h⟩ := yb_bind h
      refine p_callVv (As := [.int x2, .int x1]) (t_X7_noteIfFound hq2) cv_X7_86 (sh_41 _ _) rfl rfl (Nat.le_of_ble_eq_true rfl) dX7_noteFinding_13 (yb_rok (Nat.le_of_ble_eq_true rfl) (by decide)) ⟨rfl, rfl⟩ ⟨Nat.le_refl _, Nat.le_refl _⟩ (fun k3 => ?_)
      refine n_iinc (vs' := [some (.ref (yb_ad G 41)), some (.int x1), some (.int (x2 + (1 : Int32)))]) dX7_noteFinding_16 rfl (ii_1 _) (Nat.le_of_ble_eq_true rfl) rfl rfl ?_
      refine n_goto 2 dX7_noteFinding_19 (by decide) ?_
      exact p_jump (hrc2 (x2 + (1 : Int32)) q2 h) (And.intro rfl (And.intro rfl (And.intro rfl trivial)))
set_option maxHeartbeats 4000000 in
set_option maxRecDepth 20000 in
theorem tl_X7_noteFinding_2 {G : yb_G} {X : List (FieldType × Nat)} {x1 : Int32} {out : yb_S} {x2 : Int32} {s : yb_S} (h : l_X7_noteFinding_2 x1 yb_N x2 s = some out) : Rn G RX7 cX7_noteFinding 3 none false (yb_rm 4) (yb_qv X out) 0 0 2 [some (.ref (yb_ad G 41)), some (.int x1), some (.int x2)] [] (yb_mk s X) := t_l_X7_noteFinding_2 _ _ _ h
set_option maxHeartbeats 4000000 in
set_option maxRecDepth 20000 in
theorem t_X7_noteFinding {G : yb_G} {X : List (FieldType × Nat)} {a1 : Int32} {s : yb_S} {out : yb_S} (h : f_X7_noteFinding a1 s = some out) : Ct G yX7_noteFinding cX7_noteFinding 3 none (yb_rm 4) [.ref (yb_ad G 41), .int a1] (yb_mk s X) (yb_qv X out) := by
  refine Ct.of (own := RX7) (ini := false) (vs := [some (.ref (yb_ad G 41)), some (.int a1), none]) ⟨rfl, by decide +kernel⟩ (fun h => by cases h) (Nat.le_of_ble_eq_true rfl) rfl ?_
  unfold f_X7_noteFinding at h
  refine n_iconst (0 : Int32) dX7_noteFinding_0 ic_0 ?_
  refine n_istore_n (i := 2) (vs' := [some (.ref (yb_ad G 41)), some (.int a1), some (.int (0 : Int32))]) dX7_noteFinding_1 rfl (Nat.le_of_ble_eq_true rfl) rfl rfl ?_
  exact p_jump (tl_X7_noteFinding_2 h) (And.intro rfl (And.intro rfl (And.intro rfl trivial)))
set_option maxHeartbeats 4000000 in
set_option maxRecDepth 20000 in
theorem tj_X7_joinHeaps_151 {G : yb_G} {X : List (FieldType × Nat)} {rc125 : (Int32 → yb_S → Option (Int32 × yb_S))} {x3 : Int32} {x5 : Int32} {x6 : Int32} {s : yb_S} {out : (Int32 × yb_S)} (hrc125 : ∀ (x6' : Int32) (s' : yb_S), rc125 x6' s' = some out → Rn G RX7 cX7_joinHeaps 7 (Option.some .int) false (yb_rm 5) (yb_qi X out.2 out.1) 0 0 125 [some (.ref (yb_ad G 41)), none, none, some (.int x3), none, some (.int x5), some (.int x6')] [] (yb_mk s' X)) (h : j_X7_joinHeaps_151 rc125 x3 x5 x6 s = some out) : Rn G RX7 cX7_joinHeaps 7 (Option.some .int) false (yb_rm 5) (yb_qi X out.2 out.1) 0 0 151 [some (.ref (yb_ad G 41)), none, none, some (.int x3), none, some (.int x5), some (.int x6)] [] (yb_mk s X) := by
  unfold j_X7_joinHeaps_151 at h
  refine n_iinc (vs' := [some (.ref (yb_ad G 41)), none, none, some (.int x3), none, some (.int x5), some (.int (x6 + (1 : Int32)))]) dX7_joinHeaps_151 rfl (ii_1 _) (Nat.le_of_ble_eq_true rfl) rfl rfl ?_
  refine n_goto 125 dX7_joinHeaps_154 (by decide) ?_
  exact p_jump (hrc125 (x6 + (1 : Int32)) s h) (And.intro rfl (And.intro rfl (And.intro rfl (And.intro rfl trivial))))
set_option maxHeartbeats 4000000 in
set_option maxRecDepth 20000 in
theorem t_l_X7_joinHeaps_125 {G : yb_G} {X : List (FieldType × Nat)} {x3 : Int32} {x5 : Int32} {out : (Int32 × yb_S)} : ∀ (k0 : Nat) (x6 : Int32) (s : yb_S), l_X7_joinHeaps_125 x3 x5 k0 x6 s = some out → Rn G RX7 cX7_joinHeaps 7 (Option.some .int) false (yb_rm 5) (yb_qi X out.2 out.1) 0 0 125 [some (.ref (yb_ad G 41)), none, none, some (.int x3), none, some (.int x5), some (.int x6)] [] (yb_mk s X) := by
  intro k0
  induction k0 with
  | zero => intro x6 s h; cases h
  | succ k0 ih =>
    intro x6 s h
    have h : f_X7_joinHeaps_125 (fun x6 s => l_X7_joinHeaps_125 x3 x5 k0 x6 s) x3 x5 x6 s = some out := h
    have hrc125 := ih
    unfold f_X7_joinHeaps_125 at h
    refine n_iload dX7_joinHeaps_125 rfl ?_
    refine n_aload_n (i := 0) dX7_joinHeaps_127 rfl rfl ?_
    refine p_geti fl_X7_48 (sh_41 _ _) rfl dX7_joinHeaps_128 ?_
    refine n_icmp_ge 157 dX7_joinHeaps_131 (by decide) (fun c18 => ?_) (fun c18 => ?_)
    · have h := yb_ifp c18 h
      refine n_iload dX7_joinHeaps_157 rfl ?_
      cases h
      exact n_iret dX7_joinHeaps_159 rfl rfl (Nat.le_refl _) (Nat.le_refl _) ⟨rfl, rfl⟩
    · have h := yb_ifn c18 h
      refine n_aload_n (i := 0) dX7_joinHeaps_134 rfl rfl ?_
      refine p_getr fl_X7_30 (sh_41 _ _) rfl (rR_41_7 _ _) dX7_joinHeaps_135 ?_
      refine n_iload dX7_joinHeaps_138 rfl ?_
      obtain ⟨v19, hv19, h⟩ := yb_bind h
      refine p_iald hv19 (sh_48 _ _) dX7_joinHeaps_140 ?_
      refine n_iload_n (i := 3) dX7_joinHeaps_141 rfl rfl ?_
      refine n_icmp_ne 151 dX7_joinHeaps_142 (by decide) (fun c20 => ?_) (fun c20 => ?_)
      · have h := yb_ifn c20 h
        exact p_jump (tj_X7_joinHeaps_151 hrc125 h) (And.intro rfl (And.intro rfl (And.intro rfl (And.intro rfl trivial))))
      · have h := yb_ifp c20 h
        refine n_aload_n (i := 0) dX7_joinHeaps_145 rfl rfl ?_
        refine n_iload dX7_joinHeaps_146 rfl ?_
        obtain ⟨q21, hq21, h⟩ := yb_bind h
        refine p_callVv (As := [.int x6]) (t_X7_noteFinding hq21) cv_X7_52 (sh_41 _ _) rfl rfl (Nat.le_of_ble_eq_true rfl) dX7_joinHeaps_148 (yb_rok (Nat.le_of_ble_eq_true rfl) (by decide)) ⟨rfl, rfl⟩ ⟨Nat.le_refl _, Nat.le_refl _⟩ (fun k22 => ?_)
        exact p_jump (tj_X7_joinHeaps_151 hrc125 h) (And.intro rfl (And.intro rfl (And.intro rfl (And.intro rfl trivial))))
set_option maxHeartbeats 4000000 in
set_option maxRecDepth 20000 in
theorem tl_X7_joinHeaps_125 {G : yb_G} {X : List (FieldType × Nat)} {x3 : Int32} {x5 : Int32} {out : (Int32 × yb_S)} {x6 : Int32} {s : yb_S} (h : l_X7_joinHeaps_125 x3 x5 yb_N x6 s = some out) : Rn G RX7 cX7_joinHeaps 7 (Option.some .int) false (yb_rm 5) (yb_qi X out.2 out.1) 0 0 125 [some (.ref (yb_ad G 41)), none, none, some (.int x3), none, some (.int x5), some (.int x6)] [] (yb_mk s X) := t_l_X7_joinHeaps_125 _ _ _ h
set_option maxHeartbeats 4000000 in
set_option maxRecDepth 20000 in
theorem tj_X7_joinHeaps_116 {G : yb_G} {X : List (FieldType × Nat)} {rc73 : (Int32 → Int32 → yb_S → Option (Int32 × yb_S))} {x3 : Int32} {x4 : Int32} {x5 : Int32} {x6 : Int32} {s : yb_S} {out : (Int32 × yb_S)} (hrc73 : ∀ (x5' : Int32) (x6' : Int32) (s' : yb_S), rc73 x5' x6' s' = some out → Rn G RX7 cX7_joinHeaps 7 (Option.some .int) false (yb_rm 5) (yb_qi X out.2 out.1) 0 0 73 [some (.ref (yb_ad G 41)), none, none, some (.int x3), some (.int x4), some (.int x5'), some (.int x6')] [] (yb_mk s' X)) (h : j_X7_joinHeaps_116 rc73 x3 x4 x5 x6 s = some out) : Rn G RX7 cX7_joinHeaps 7 (Option.some .int) false (yb_rm 5) (yb_qi X out.2 out.1) 0 0 116 [some (.ref (yb_ad G 41)), none, none, some (.int x3), some (.int x4), some (.int x5), some (.int x6)] [] (yb_mk s X) := by
  unfold j_X7_joinHeaps_116 at h
  refine n_iinc (vs' := [some (.ref (yb_ad G 41)), none, none, some (.int x3), some (.int x4), some (.int x5), some (.int (x6 + (1 : Int32)))]) dX7_joinHeaps_116 rfl (ii_1 _) (Nat.le_of_ble_eq_true rfl) rfl rfl ?_
  refine n_goto 73 dX7_joinHeaps_119 (by decide) ?_
  exact p_jump (hrc73 x5 (x6 + (1 : Int32)) s h) (And.intro rfl (And.intro rfl (And.intro rfl (And.intro rfl (And.intro rfl trivial)))))
set_option maxHeartbeats 4000000 in
set_option maxRecDepth 20000 in
theorem tj_X7_joinHeaps_102 {G : yb_G} {X : List (FieldType × Nat)} {rc73 : (Int32 → Int32 → yb_S → Option (Int32 × yb_S))} {x3 : Int32} {x4 : Int32} {x5 : Int32} {x6 : Int32} {s : yb_S} {out : (Int32 × yb_S)} (hrc73 : ∀ (x5' : Int32) (x6' : Int32) (s' : yb_S), rc73 x5' x6' s' = some out → Rn G RX7 cX7_joinHeaps 7 (Option.some .int) false (yb_rm 5) (yb_qi X out.2 out.1) 0 0 73 [some (.ref (yb_ad G 41)), none, none, some (.int x3), some (.int x4), some (.int x5'), some (.int x6')] [] (yb_mk s' X)) (h : j_X7_joinHeaps_102 rc73 x3 x4 x5 x6 s = some out) : Rn G RX7 cX7_joinHeaps 7 (Option.some .int) false (yb_rm 5) (yb_qi X out.2 out.1) 0 0 102 [some (.ref (yb_ad G 41)), none, none, some (.int x3), some (.int x4), some (.int x5), some (.int x6)] [] (yb_mk s X) := by
  unfold j_X7_joinHeaps_102 at h
  refine n_aload_n (i := 0) dX7_joinHeaps_102 rfl rfl ?_
  refine p_getr fl_X7_30 (sh_41 _ _) rfl (rR_41_7 _ _) dX7_joinHeaps_103 ?_
  refine n_iload dX7_joinHeaps_106 rfl ?_
  obtain ⟨v25, hv25, h⟩ := yb_bind h
  refine p_iald hv25 (sh_48 _ _) dX7_joinHeaps_108 ?_
  refine n_iload_n (i := 3) dX7_joinHeaps_109 rfl rfl ?_
  refine n_icmp_ne 116 dX7_joinHeaps_110 (by decide) (fun c26 => ?_) (fun c26 => ?_)
  · have h := yb_ifn c26 h
    exact p_jump (tj_X7_joinHeaps_116 hrc73 h) (And.intro rfl (And.intro rfl (And.intro rfl (And.intro rfl (And.intro rfl trivial)))))
  · have h := yb_ifp c26 h
    refine n_iinc (vs' := [some (.ref (yb_ad G 41)), none, none, some (.int x3), some (.int x4), some (.int (x5 + (1 : Int32))), some (.int x6)]) dX7_joinHeaps_113 rfl (ii_1 _) (Nat.le_of_ble_eq_true rfl) rfl rfl ?_
    exact p_jump (tj_X7_joinHeaps_116 hrc73 h) (And.intro rfl (And.intro rfl (And.intro rfl (And.intro rfl (And.intro rfl trivial)))))
set_option maxHeartbeats 4000000 in
set_option maxRecDepth 20000 in
theorem t_l_X7_joinHeaps_73 {G : yb_G} {X : List (FieldType × Nat)} {x3 : Int32} {x4 : Int32} {out : (Int32 × yb_S)} : ∀ (k0 : Nat) (x5 : Int32) (x6 : Int32) (s : yb_S), l_X7_joinHeaps_73 x3 x4 k0 x5 x6 s = some out → Rn G RX7 cX7_joinHeaps 7 (Option.some .int) false (yb_rm 5) (yb_qi X out.2 out.1) 0 0 73 [some (.ref (yb_ad G 41)), none, none, some (.int x3), some (.int x4), some (.int x5), some (.int x6)] [] (yb_mk s X) := by
  intro k0
  induction k0 with
  | zero => intro x5 x6 s h; cases h
  | succ k0 ih =>
    intro x5 x6 s h
    have h : f_X7_joinHeaps_73 (fun x5 x6 s => l_X7_joinHeaps_73 x3 x4 k0 x5 x6 s) x3 x4 x5 x6 s = some out := h
    have hrc73 := ih
    unfold f_X7_joinHeaps_73 at h
    refine n_iload dX7_joinHeaps_73 rfl ?_
    refine n_aload_n (i := 0) dX7_joinHeaps_75 rfl rfl ?_
    refine p_geti fl_X7_48 (sh_41 _ _) rfl dX7_joinHeaps_76 ?_
    refine n_icmp_ge 122 dX7_joinHeaps_79 (by decide) (fun c17 => ?_) (fun c17 => ?_)
    · have h := yb_ifp c17 h
      refine n_iconst (0 : Int32) dX7_joinHeaps_122 ic_0 ?_
      refine n_istore (i := 6) (vs' := [some (.ref (yb_ad G 41)), none, none, some (.int x3), some (.int x4), some (.int x5), some (.int (0 : Int32))]) dX7_joinHeaps_123 (Nat.le_of_ble_eq_true rfl) rfl rfl ?_
      exact p_jump (tl_X7_joinHeaps_125 h) (And.intro rfl (And.intro rfl (And.intro rfl (And.intro rfl trivial))))
    · have h := yb_ifn c17 h
      refine n_aload_n (i := 0) dX7_joinHeaps_82 rfl rfl ?_
      refine p_getr fl_X7_30 (sh_41 _ _) rfl (rR_41_7 _ _) dX7_joinHeaps_83 ?_
      refine n_iload dX7_joinHeaps_86 rfl ?_
      obtain ⟨v23, hv23, h⟩ := yb_bind h
      refine p_iald hv23 (sh_48 _ _) dX7_joinHeaps_88 ?_
      refine n_iload dX7_joinHeaps_89 rfl ?_
      refine n_icmp_ne 102 dX7_joinHeaps_91 (by decide) (fun c24 => ?_) (fun c24 => ?_)
      · have h := yb_ifn c24 h
        exact p_jump (tj_X7_joinHeaps_102 hrc73 h) (And.intro rfl (And.intro rfl (And.intro rfl (And.intro rfl (And.intro rfl trivial)))))
      · have h := yb_ifp c24 h
        refine n_aload_n (i := 0) dX7_joinHeaps_94 rfl rfl ?_
        refine p_getr fl_X7_30 (sh_41 _ _) rfl (rR_41_7 _ _) dX7_joinHeaps_95 ?_
        refine n_iload dX7_joinHeaps_98 rfl ?_
        refine n_iload_n (i := 3) dX7_joinHeaps_100 rfl rfl ?_
        obtain ⟨s27, hs27, h⟩ := yb_bind h
        refine p_iast hs27 (sh_48 _ _) dX7_joinHeaps_101 ?_
        exact p_jump (tj_X7_joinHeaps_102 hrc73 h) (And.intro rfl (And.intro rfl (And.intro rfl (And.intro rfl (And.intro rfl trivial)))))
set_option maxHeartbeats 4000000 in
set_option maxRecDepth 20000 in
theorem tl_X7_joinHeaps_73 {G : yb_G} {X : List (FieldType × Nat)} {x3 : Int32} {x4 : Int32} {out : (Int32 × yb_S)} {x5 : Int32} {x6 : Int32} {s : yb_S} (h : l_X7_joinHeaps_73 x3 x4 yb_N x5 x6 s = some out) : Rn G RX7 cX7_joinHeaps 7 (Option.some .int) false (yb_rm 5) (yb_qi X out.2 out.1) 0 0 73 [some (.ref (yb_ad G 41)), none, none, some (.int x3), some (.int x4), some (.int x5), some (.int x6)] [] (yb_mk s X) := t_l_X7_joinHeaps_73 _ _ _ _ h
set_option maxHeartbeats 4000000 in
set_option maxRecDepth 20000 in
theorem t_X7_joinHeaps {G : yb_G} {X : List (FieldType × Nat)} {a1 : Int32} {a2 : Int32} {s : yb_S} {out : (Int32 × yb_S)} (h : f_X7_joinHeaps a1 a2 s = some out) : Ct G yX7_joinHeaps cX7_joinHeaps 7 (Option.some .int) (yb_rm 5) [.ref (yb_ad G 41), .int a1, .int a2] (yb_mk s X) (yb_qi X out.2 out.1) := by
  refine Ct.of (own := RX7) (ini := false) (vs := [some (.ref (yb_ad G 41)), some (.int a1), some (.int a2), none, none, none, none]) ⟨rfl, by decide +kernel⟩ (fun h => by cases h) (Nat.le_of_ble_eq_true rfl) rfl ?_
  unfold f_X7_joinHeaps at h
  refine n_aload_n (i := 0) dX7_joinHeaps_0 rfl rfl ?_
  refine n_iload_n (i := 1) dX7_joinHeaps_1 rfl rfl ?_
  obtain ⟨q1, hq1, h⟩ := yb_bind h
  refine p_callVi (As := [.int a1]) (t_X7_has hq1) cv_X7_56 (sh_41 _ _) rfl rfl (Nat.le_of_ble_eq_true rfl) dX7_joinHeaps_2 (yb_rok (Nat.le_of_ble_eq_true rfl) (by decide)) ⟨rfl, rfl⟩ ⟨Nat.le_refl _, Nat.le_refl _⟩ (fun k2 => ?_)
  refine n_if_eq 50 dX7_joinHeaps_5 (by decide) (fun c3 => ?_) (fun c3 => ?_)
  · have h := yb_ifp c3 h
    refine n_iconst (-1 : Int32) dX7_joinHeaps_50 ic_m1 ?_
    cases h
    exact n_iret dX7_joinHeaps_51 rfl rfl (Nat.le_refl _) (Nat.le_refl _) ⟨rfl, rfl⟩
  · have h := yb_ifn c3 h
    refine n_aload_n (i := 0) dX7_joinHeaps_8 rfl rfl ?_
    refine n_iload_n (i := 2) dX7_joinHeaps_9 rfl rfl ?_
    obtain ⟨q4, hq4, h⟩ := yb_bind h
    refine p_callVi (As := [.int a2]) (t_X7_has hq4) cv_X7_56 (sh_41 _ _) rfl rfl (Nat.le_of_ble_eq_true rfl) dX7_joinHeaps_10 (yb_rok (Nat.le_of_ble_eq_true rfl) (by decide)) ⟨rfl, rfl⟩ ⟨Nat.le_refl _, Nat.le_refl _⟩ (fun k5 => ?_)
    refine n_if_eq 50 dX7_joinHeaps_13 (by decide) (fun c6 => ?_) (fun c6 => ?_)
    · have h := yb_ifp c6 h
      refine n_iconst (-1 : Int32) dX7_joinHeaps_50 ic_m1 ?_
      cases h
      exact n_iret dX7_joinHeaps_51 rfl rfl (Nat.le_refl _) (Nat.le_refl _) ⟨rfl, rfl⟩
    · have h := yb_ifn c6 h
      refine n_aload_n (i := 0) dX7_joinHeaps_16 rfl rfl ?_
      refine p_getr fl_X7_30 (sh_41 _ _) rfl (rR_41_7 _ _) dX7_joinHeaps_17 ?_
      refine n_iload_n (i := 1) dX7_joinHeaps_20 rfl rfl ?_
      obtain ⟨v7, hv7, h⟩ := yb_bind h
      refine p_iald hv7 (sh_48 _ _) dX7_joinHeaps_21 ?_
      refine n_aload_n (i := 0) dX7_joinHeaps_22 rfl rfl ?_
      refine p_getr fl_X7_30 (sh_41 _ _) rfl (rR_41_7 _ _) dX7_joinHeaps_23 ?_
      refine n_iload_n (i := 2) dX7_joinHeaps_26 rfl rfl ?_
      obtain ⟨v8, hv8, h⟩ := yb_bind h
      refine p_iald hv8 (sh_48 _ _) dX7_joinHeaps_27 ?_
      refine n_icmp_eq 50 dX7_joinHeaps_28 (by decide) (fun c9 => ?_) (fun c9 => ?_)
      · have h := yb_ifp c9 h
        refine n_iconst (-1 : Int32) dX7_joinHeaps_50 ic_m1 ?_
        cases h
        exact n_iret dX7_joinHeaps_51 rfl rfl (Nat.le_refl _) (Nat.le_refl _) ⟨rfl, rfl⟩
      · have h := yb_ifn c9 h
        refine n_aload_n (i := 0) dX7_joinHeaps_31 rfl rfl ?_
        refine n_aload_n (i := 0) dX7_joinHeaps_32 rfl rfl ?_
        refine p_getr fl_X7_30 (sh_41 _ _) rfl (rR_41_7 _ _) dX7_joinHeaps_33 ?_
        refine n_iload_n (i := 1) dX7_joinHeaps_36 rfl rfl ?_
        obtain ⟨v10, hv10, h⟩ := yb_bind h
        refine p_iald hv10 (sh_48 _ _) dX7_joinHeaps_37 ?_
        refine n_aload_n (i := 0) dX7_joinHeaps_38 rfl rfl ?_
        refine p_getr fl_X7_30 (sh_41 _ _) rfl (rR_41_7 _ _) dX7_joinHeaps_39 ?_
        refine n_iload_n (i := 2) dX7_joinHeaps_42 rfl rfl ?_
        obtain ⟨v11, hv11, h⟩ := yb_bind h
        refine p_iald hv11 (sh_48 _ _) dX7_joinHeaps_43 ?_
        obtain ⟨q12, hq12, h⟩ := yb_bind h
        refine p_callVi (As := [.int v10, .int v11]) (t_X7_canBeOneHeap hq12) cv_X7_77 (sh_41 _ _) rfl rfl (Nat.le_of_ble_eq_true rfl) dX7_joinHeaps_44 (yb_rok (Nat.le_of_ble_eq_true rfl) (by decide)) ⟨rfl, rfl⟩ ⟨Nat.le_refl _, Nat.le_refl _⟩ (fun k13 => ?_)
        refine n_if_ne 52 dX7_joinHeaps_47 (by decide) (fun c14 => ?_) (fun c14 => ?_)
        · have h := yb_ifn c14 h
          refine n_aload_n (i := 0) dX7_joinHeaps_52 rfl rfl ?_
          refine p_getr fl_X7_30 (sh_41 _ _) rfl (rR_41_7 _ _) dX7_joinHeaps_53 ?_
          refine n_iload_n (i := 1) dX7_joinHeaps_56 rfl rfl ?_
          obtain ⟨v15, hv15, h⟩ := yb_bind h
          refine p_iald hv15 (sh_48 _ _) dX7_joinHeaps_57 ?_
          refine n_istore_n (i := 3) (vs' := [some (.ref (yb_ad G 41)), some (.int a1), some (.int a2), some (.int v15), none, none, none]) dX7_joinHeaps_58 rfl (Nat.le_of_ble_eq_true rfl) rfl rfl ?_
          refine n_aload_n (i := 0) dX7_joinHeaps_59 rfl rfl ?_
          refine p_getr fl_X7_30 (sh_41 _ _) rfl (rR_41_7 _ _) dX7_joinHeaps_60 ?_
          refine n_iload_n (i := 2) dX7_joinHeaps_63 rfl rfl ?_
          obtain ⟨v16, hv16, h⟩ := yb_bind h
          refine p_iald hv16 (sh_48 _ _) dX7_joinHeaps_64 ?_
          refine n_istore (i := 4) (vs' := [some (.ref (yb_ad G 41)), some (.int a1), some (.int a2), some (.int v15), some (.int v16), none, none]) dX7_joinHeaps_65 (Nat.le_of_ble_eq_true rfl) rfl rfl ?_
          refine n_iconst (0 : Int32) dX7_joinHeaps_67 ic_0 ?_
          refine n_istore (i := 5) (vs' := [some (.ref (yb_ad G 41)), some (.int a1), some (.int a2), some (.int v15), some (.int v16), some (.int (0 : Int32)), none]) dX7_joinHeaps_68 (Nat.le_of_ble_eq_true rfl) rfl rfl ?_
          refine n_iconst (0 : Int32) dX7_joinHeaps_70 ic_0 ?_
          refine n_istore (i := 6) (vs' := [some (.ref (yb_ad G 41)), some (.int a1), some (.int a2), some (.int v15), some (.int v16), some (.int (0 : Int32)), some (.int (0 : Int32))]) dX7_joinHeaps_71 (Nat.le_of_ble_eq_true rfl) rfl rfl ?_
          exact p_jump (tl_X7_joinHeaps_73 h) (And.intro rfl (And.intro rfl (And.intro rfl (And.intro rfl (And.intro rfl trivial)))))
        · have h := yb_ifp c14 h
          refine n_iconst (-1 : Int32) dX7_joinHeaps_50 ic_m1 ?_
          cases h
          exact n_iret dX7_joinHeaps_51 rfl rfl (Nat.le_refl _) (Nat.le_refl _) ⟨rfl, rfl⟩
set_option maxHeartbeats 4000000 in
set_option maxRecDepth 20000 in
theorem t_X11_join {G : yb_G} {X : List (FieldType × Nat)} {a1 : Int32} {a2 : Int32} {s : yb_S} {out : (Int32 × yb_S)} (h : f_X11_join a1 a2 s = some out) : Ct G yX11_join cX11_join 3 (Option.some .int) (yb_rm 6) [.ref (yb_ad G 0), .int a1, .int a2] (yb_mk s X) (yb_qi X out.2 out.1) := by
  refine Ct.of (own := RX11) (ini := false) (vs := [some (.ref (yb_ad G 0)), some (.int a1), some (.int a2)]) ⟨rfl, by decide +kernel⟩ (fun h => by cases h) (Nat.le_of_ble_eq_true rfl) rfl ?_
  unfold f_X11_join at h
  refine n_aload_n (i := 0) dX11_join_0 rfl rfl ?_
  refine p_getr fl_X11_10 (sh_0 _ _) rfl (rR_0_0 _ _) dX11_join_1 ?_
  refine p_getr fl_X11_128 (sh_1 _ _) rfl (rR_1_3 _ _) dX11_join_4 ?_
  refine n_iload_n (i := 1) dX11_join_7 rfl rfl ?_
  refine n_iload_n (i := 2) dX11_join_8 rfl rfl ?_
  obtain ⟨q1, hq1, h⟩ := yb_bind h
  refine p_callVi (As := [.int a1, .int a2]) (t_X7_joinHeaps hq1) cv_X11_158 (sh_41 _ _) rfl rfl (Nat.le_of_ble_eq_true rfl) dX11_join_9 (yb_rok (Nat.le_of_ble_eq_true rfl) (by decide)) ⟨rfl, rfl⟩ ⟨Nat.le_refl _, Nat.le_refl _⟩ (fun k2 => ?_)
  cases h
  exact n_iret dX11_join_12 rfl rfl (Nat.le_refl _) (Nat.le_refl _) ⟨rfl, rfl⟩
set_option maxHeartbeats 4000000 in
set_option maxRecDepth 20000 in
theorem t_X11_kin {G : yb_G} {X : List (FieldType × Nat)} {a1 : Int32} {s : yb_S} {out : Int32} (h : f_X11_kin a1 s = some out) : Ct G yX11_kin cX11_kin 2 (Option.some .int) (yb_rm 2) [.ref (yb_ad G 0), .int a1] (yb_mk s X) (yb_qi X s out) := by
  refine Ct.of (own := RX11) (ini := false) (vs := [some (.ref (yb_ad G 0)), some (.int a1)]) ⟨rfl, by decide +kernel⟩ (fun h => by cases h) (Nat.le_of_ble_eq_true rfl) rfl ?_
  unfold f_X11_kin at h
  refine n_aload_n (i := 0) dX11_kin_0 rfl rfl ?_
  refine p_getr fl_X11_10 (sh_0 _ _) rfl (rR_0_0 _ _) dX11_kin_1 ?_
  refine p_getr fl_X11_100 (sh_1 _ _) rfl (rR_1_2 _ _) dX11_kin_4 ?_
  refine n_iload_n (i := 1) dX11_kin_7 rfl rfl ?_
  obtain ⟨q1, hq1, h⟩ := yb_bind h
  refine p_callVi (As := [.int a1]) (t_X2_has hq1) cv_X11_127 (sh_21 _ _) rfl rfl (Nat.le_of_ble_eq_true rfl) dX11_kin_8 (yb_rok (Nat.le_of_ble_eq_true rfl) (by decide)) ⟨rfl, rfl⟩ ⟨Nat.le_refl _, Nat.le_refl _⟩ (fun k2 => ?_)
  refine n_if_eq 29 dX11_kin_11 (by decide) (fun c3 => ?_) (fun c3 => ?_)
  · have h := yb_ifp c3 h
    refine n_iconst (-1 : Int32) dX11_kin_29 ic_m1 ?_
    cases h
    exact n_iret dX11_kin_30 rfl rfl (Nat.le_refl _) (Nat.le_refl _) ⟨rfl, rfl⟩
  · have h := yb_ifn c3 h
    refine n_aload_n (i := 0) dX11_kin_14 rfl rfl ?_
    refine p_getr fl_X11_10 (sh_0 _ _) rfl (rR_0_0 _ _) dX11_kin_15 ?_
    refine p_getr fl_X11_128 (sh_1 _ _) rfl (rR_1_3 _ _) dX11_kin_18 ?_
    refine p_getr fl_X11_175 (sh_41 _ _) rfl (rR_41_13 _ _) dX11_kin_21 ?_
    refine n_iload_n (i := 1) dX11_kin_24 rfl rfl ?_
    obtain ⟨v4, hv4, h⟩ := yb_bind h
    refine p_iald hv4 (sh_53 _ _) dX11_kin_25 ?_
    refine n_goto 30 dX11_kin_26 (by decide) ?_
    cases h
    exact n_iret dX11_kin_30 rfl rfl (Nat.le_refl _) (Nat.le_refl _) ⟨rfl, rfl⟩
set_option maxHeartbeats 4000000 in
set_option maxRecDepth 20000 in
theorem t_X11_lack {G : yb_G} {X : List (FieldType × Nat)} {a1 : Int32} {s : yb_S} {out : (Int32 × yb_S)} (h : f_X11_lack a1 s = some out) : Ct G yX11_lack cX11_lack 2 (Option.some .int) (yb_rm 6) [.ref (yb_ad G 0), .int a1] (yb_mk s X) (yb_qi X out.2 out.1) := by
  refine Ct.of (own := RX11) (ini := false) (vs := [some (.ref (yb_ad G 0)), some (.int a1)]) ⟨rfl, by decide +kernel⟩ (fun h => by cases h) (Nat.le_of_ble_eq_true rfl) rfl ?_
  unfold f_X11_lack at h
  refine n_aload_n (i := 0) dX11_lack_0 rfl rfl ?_
  refine p_getr fl_X11_10 (sh_0 _ _) rfl (rR_0_0 _ _) dX11_lack_1 ?_
  refine p_getr fl_X11_53 (sh_1 _ _) rfl (rR_1_0 _ _) dX11_lack_4 ?_
  refine n_iload_n (i := 1) dX11_lack_7 rfl rfl ?_
  obtain ⟨q1, hq1, h⟩ := yb_bind h
  refine p_callVi (As := [.int a1]) (t_X10_has hq1) cv_X11_63 (sh_2 _ _) rfl rfl (Nat.le_of_ble_eq_true rfl) dX11_lack_8 (yb_rok (Nat.le_of_ble_eq_true rfl) (by decide)) ⟨rfl, rfl⟩ ⟨Nat.le_refl _, Nat.le_refl _⟩ (fun k2 => ?_)
  refine n_if_eq 25 dX11_lack_11 (by decide) (fun c3 => ?_) (fun c3 => ?_)
  · have h := yb_ifp c3 h
    refine n_ldc (-2147483648 : Int32) k_X11_140 dX11_lack_25 ?_
    cases h
    exact n_iret dX11_lack_27 rfl rfl (Nat.le_refl _) (Nat.le_refl _) ⟨rfl, rfl⟩
  · have h := yb_ifn c3 h
    refine n_aload_n (i := 0) dX11_lack_14 rfl rfl ?_
    refine p_getr fl_X11_10 (sh_0 _ _) rfl (rR_0_0 _ _) dX11_lack_15 ?_
    refine n_iload_n (i := 1) dX11_lack_18 rfl rfl ?_
    obtain ⟨q4, hq4, h⟩ := yb_bind h
    refine p_callVi (As := [.int a1]) (t_X8_lackOf hq4) cv_X11_220 (sh_1 _ _) rfl rfl (Nat.le_of_ble_eq_true rfl) dX11_lack_19 (yb_rok (Nat.le_of_ble_eq_true rfl) (by decide)) ⟨rfl, rfl⟩ ⟨Nat.le_refl _, Nat.le_refl _⟩ (fun k5 => ?_)
    refine n_goto 27 dX11_lack_22 (by decide) ?_
    cases h
    exact n_iret dX11_lack_27 rfl rfl (Nat.le_refl _) (Nat.le_refl _) ⟨rfl, rfl⟩
set_option maxHeartbeats 4000000 in
set_option maxRecDepth 20000 in
theorem tj_X0_lodgerOf_21_39 {G : yb_G} {X : List (FieldType × Nat)} {rc3 : (Int32 → Option Int32)} {x1 : Int32} {x2 : Int32} {x4 : Int32} {s : yb_S} {out : Int32} (hrc3 : ∀ (x4' : Int32), rc3 x4' = some out → Rn G RX0 cX0_lodgerOf 5 (Option.some .int) false (yb_rm 1) (yb_qi X s out) 0 0 3 [some (.ref (yb_ad G 137)), some (.int x1), some (.int x2), some (.ref (yb_ad G 21)), some (.int x4')] [] (yb_mk s X)) (h : j_X0_lodgerOf_21_39 rc3 x1 x2 x4 s = some out) : Rn G RX0 cX0_lodgerOf 5 (Option.some .int) false (yb_rm 1) (yb_qi X s out) 0 0 39 [some (.ref (yb_ad G 137)), some (.int x1), some (.int x2), some (.ref (yb_ad G 21)), some (.int x4)] [] (yb_mk s X) := by
  unfold j_X0_lodgerOf_21_39 at h
  refine n_iinc (vs' := [some (.ref (yb_ad G 137)), some (.int x1), some (.int x2), some (.ref (yb_ad G 21)), some (.int (x4 + (1 : Int32)))]) dX0_lodgerOf_39 rfl (ii_1 _) (Nat.le_of_ble_eq_true rfl) rfl rfl ?_
  refine n_goto 3 dX0_lodgerOf_42 (by decide) ?_
  exact p_jump (hrc3 (x4 + (1 : Int32)) h) (And.intro rfl (And.intro rfl (And.intro rfl (And.intro rfl (And.intro rfl trivial)))))
set_option maxHeartbeats 4000000 in
set_option maxRecDepth 20000 in
theorem t_l_X0_lodgerOf_21_3 {G : yb_G} {X : List (FieldType × Nat)} {x1 : Int32} {x2 : Int32} {s : yb_S} {out : Int32} : ∀ (k0 : Nat) (x4 : Int32), l_X0_lodgerOf_21_3 x1 x2 s k0 x4 = some out → Rn G RX0 cX0_lodgerOf 5 (Option.some .int) false (yb_rm 1) (yb_qi X s out) 0 0 3 [some (.ref (yb_ad G 137)), some (.int x1), some (.int x2), some (.ref (yb_ad G 21)), some (.int x4)] [] (yb_mk s X) := by
  intro k0
  induction k0 with
  | zero => intro x4 h; cases h
  | succ k0 ih =>
    intro x4 h
    have h : f_X0_lodgerOf_21_3 (fun x4 => l_X0_lodgerOf_21_3 x1 x2 s k0 x4) x1 x2 s x4 = some out := h
    have hrc3 := ih
    unfold f_X0_lodgerOf_21_3 at h
    refine n_iload dX0_lodgerOf_3 rfl ?_
    refine n_aload_n (i := 3) dX0_lodgerOf_5 rfl rfl ?_
    refine p_geti fl_X0_29 (sh_21 _ _) rfl dX0_lodgerOf_6 ?_
    refine n_icmp_ge 45 dX0_lodgerOf_9 (by decide) (fun c1 => ?_) (fun c1 => ?_)
    · have h := yb_ifp c1 h
      refine n_iconst (-1 : Int32) dX0_lodgerOf_45 ic_m1 ?_
      cases h
      exact n_iret dX0_lodgerOf_46 rfl rfl (Nat.le_refl _) (Nat.le_refl _) ⟨rfl, rfl⟩
    · have h := yb_ifn c1 h
      refine n_aload_n (i := 3) dX0_lodgerOf_12 rfl rfl ?_
      refine p_getr fl_X0_55 (sh_21 _ _) rfl (rR_21_11 _ _) dX0_lodgerOf_13 ?_
      refine n_iload dX0_lodgerOf_16 rfl ?_
      obtain ⟨v2, hv2, h⟩ := yb_bind h
      refine p_iald hv2 (sh_32 _ _) dX0_lodgerOf_18 ?_
      refine n_iload_n (i := 2) dX0_lodgerOf_19 rfl rfl ?_
      refine n_icmp_gt 39 dX0_lodgerOf_20 (by decide) (fun c3 => ?_) (fun c3 => ?_)
      · have h := yb_ifp c3 h
        exact p_jump (tj_X0_lodgerOf_21_39 hrc3 h) (And.intro rfl (And.intro rfl (And.intro rfl (And.intro rfl (And.intro rfl trivial)))))
      · have h := yb_ifn c3 h
        refine n_aload_n (i := 0) dX0_lodgerOf_23 rfl rfl ?_
        refine p_getr fl_X0_11 (sh_137 _ _) rfl (rR_137_0 _ _) dX0_lodgerOf_24 ?_
        refine n_iload dX0_lodgerOf_27 rfl ?_
        obtain ⟨r4, hr4, h⟩ := yb_bind h
        refine p_aald hr4 (sh_138 _ _) (by decide) rfl (rF_138 _ _) dX0_lodgerOf_29 ?_
        refine n_iload_n (i := 2) dX0_lodgerOf_30 rfl rfl ?_
        obtain ⟨v5, hv5, h⟩ := yb_bind h
        refine p_iald hv5 (shF_138 hr4 _ _) dX0_lodgerOf_31 ?_
        refine n_iload_n (i := 1) dX0_lodgerOf_32 rfl rfl ?_
        refine n_icmp_ne 39 dX0_lodgerOf_33 (by decide) (fun c6 => ?_) (fun c6 => ?_)
        · have h := yb_ifn c6 h
          exact p_jump (tj_X0_lodgerOf_21_39 hrc3 h) (And.intro rfl (And.intro rfl (And.intro rfl (And.intro rfl (And.intro rfl trivial)))))
        · have h := yb_ifp c6 h
          refine n_iload dX0_lodgerOf_36 rfl ?_
          cases h
          exact n_iret dX0_lodgerOf_38 rfl rfl (Nat.le_refl _) (Nat.le_refl _) ⟨rfl, rfl⟩
set_option maxHeartbeats 4000000 in
set_option maxRecDepth 20000 in
theorem tl_X0_lodgerOf_21_3 {G : yb_G} {X : List (FieldType × Nat)} {x1 : Int32} {x2 : Int32} {s : yb_S} {out : Int32} {x4 : Int32} (h : l_X0_lodgerOf_21_3 x1 x2 s yb_N x4 = some out) : Rn G RX0 cX0_lodgerOf 5 (Option.some .int) false (yb_rm 1) (yb_qi X s out) 0 0 3 [some (.ref (yb_ad G 137)), some (.int x1), some (.int x2), some (.ref (yb_ad G 21)), some (.int x4)] [] (yb_mk s X) := t_l_X0_lodgerOf_21_3 _ _ h
set_option maxHeartbeats 4000000 in
set_option maxRecDepth 20000 in
theorem t_X0_lodgerOf_21 {G : yb_G} {X : List (FieldType × Nat)} {a1 : Int32} {a2 : Int32} {s : yb_S} {out : Int32} (h : f_X0_lodgerOf_21 a1 a2 s = some out) : Ct G yX0_lodgerOf cX0_lodgerOf 5 (Option.some .int) (yb_rm 1) [.ref (yb_ad G 137), .int a1, .int a2, .ref (yb_ad G 21)] (yb_mk s X) (yb_qi X s out) := by
  refine Ct.of (own := RX0) (ini := false) (vs := [some (.ref (yb_ad G 137)), some (.int a1), some (.int a2), some (.ref (yb_ad G 21)), none]) ⟨rfl, by decide +kernel⟩ (fun h => by cases h) (Nat.le_of_ble_eq_true rfl) rfl ?_
  unfold f_X0_lodgerOf_21 at h
  refine n_iconst (0 : Int32) dX0_lodgerOf_0 ic_0 ?_
  refine n_istore (i := 4) (vs' := [some (.ref (yb_ad G 137)), some (.int a1), some (.int a2), some (.ref (yb_ad G 21)), some (.int (0 : Int32))]) dX0_lodgerOf_1 (Nat.le_of_ble_eq_true rfl) rfl rfl ?_
  exact p_jump (tl_X0_lodgerOf_21_3 h) (And.intro rfl (And.intro rfl (And.intro rfl (And.intro rfl (And.intro rfl trivial)))))
set_option maxHeartbeats 4000000 in
set_option maxRecDepth 20000 in
theorem t_X11_lead {G : yb_G} {X : List (FieldType × Nat)} {a1 : Int32} {a2 : Int32} {s : yb_S} {out : Int32} (h : f_X11_lead a1 a2 s = some out) : Ct G yX11_lead cX11_lead 3 (Option.some .int) (yb_rm 2) [.ref (yb_ad G 0), .int a1, .int a2] (yb_mk s X) (yb_qi X s out) := by
  refine Ct.of (own := RX11) (ini := false) (vs := [some (.ref (yb_ad G 0)), some (.int a1), some (.int a2)]) ⟨rfl, by decide +kernel⟩ (fun h => by cases h) (Nat.le_of_ble_eq_true rfl) rfl ?_
  unfold f_X11_lead at h
  refine n_aload_n (i := 0) dX11_lead_0 rfl rfl ?_
  refine p_getr fl_X11_10 (sh_0 _ _) rfl (rR_0_0 _ _) dX11_lead_1 ?_
  refine p_getr fl_X11_77 (sh_1 _ _) rfl (rR_1_1 _ _) dX11_lead_4 ?_
  refine n_iload_n (i := 1) dX11_lead_7 rfl rfl ?_
  obtain ⟨q1, hq1, h⟩ := yb_bind h
  refine p_callVi (As := [.int a1]) (t_X4_has hq1) cv_X11_223 (sh_13 _ _) rfl rfl (Nat.le_of_ble_eq_true rfl) dX11_lead_8 (yb_rok (Nat.le_of_ble_eq_true rfl) (by decide)) ⟨rfl, rfl⟩ ⟨Nat.le_refl _, Nat.le_refl _⟩ (fun k2 => ?_)
  refine n_if_eq 22 dX11_lead_11 (by decide) (fun c3 => ?_) (fun c3 => ?_)
  · have h := yb_ifp c3 h
    refine n_iconst (-1 : Int32) dX11_lead_22 ic_m1 ?_
    cases h
    exact n_iret dX11_lead_23 rfl rfl (Nat.le_refl _) (Nat.le_refl _) ⟨rfl, rfl⟩
  · have h := yb_ifn c3 h
    refine n_aload_n (i := 0) dX11_lead_14 rfl rfl ?_
    refine n_iload_n (i := 2) dX11_lead_15 rfl rfl ?_
    obtain ⟨q4, hq4, h⟩ := yb_bind h
    refine p_callVi (As := [.int a2]) (t_X11_hasEnded hq4) cv_X11_271 (sh_0 _ _) rfl rfl (Nat.le_of_ble_eq_true rfl) dX11_lead_16 (yb_rok (Nat.le_of_ble_eq_true rfl) (by decide)) ⟨rfl, rfl⟩ ⟨Nat.le_refl _, Nat.le_refl _⟩ (fun k5 => ?_)
    refine n_if_ne 24 dX11_lead_19 (by decide) (fun c6 => ?_) (fun c6 => ?_)
    · have h := yb_ifn c6 h
      refine n_aload_n (i := 0) dX11_lead_24 rfl rfl ?_
      refine p_getr fl_X11_42 (sh_0 _ _) rfl (rR_0_4 _ _) dX11_lead_25 ?_
      refine n_iload_n (i := 1) dX11_lead_28 rfl rfl ?_
      refine n_iload_n (i := 2) dX11_lead_29 rfl rfl ?_
      refine n_aload_n (i := 0) dX11_lead_30 rfl rfl ?_
      refine p_getr fl_X11_10 (sh_0 _ _) rfl (rR_0_0 _ _) dX11_lead_31 ?_
      refine p_getr fl_X11_100 (sh_1 _ _) rfl (rR_1_2 _ _) dX11_lead_34 ?_
      obtain ⟨q7, hq7, h⟩ := yb_bind h
      refine p_callVi (As := [.int a1, .int a2, .ref (yb_ad G 21)]) (t_X0_lodgerOf_21 hq7) cv_X11_277 (sh_137 _ _) rfl rfl (Nat.le_of_ble_eq_true rfl) dX11_lead_37 (yb_rok (Nat.le_of_ble_eq_true rfl) (by decide)) ⟨rfl, rfl⟩ ⟨Nat.le_refl _, Nat.le_refl _⟩ (fun k8 => ?_)
      cases h
      exact n_iret dX11_lead_40 rfl rfl (Nat.le_refl _) (Nat.le_refl _) ⟨rfl, rfl⟩
    · have h := yb_ifp c6 h
      refine n_iconst (-1 : Int32) dX11_lead_22 ic_m1 ?_
      cases h
      exact n_iret dX11_lead_23 rfl rfl (Nat.le_refl _) (Nat.le_refl _) ⟨rfl, rfl⟩
set_option maxHeartbeats 4000000 in
set_option maxRecDepth 20000 in
theorem t_X11_leave {G : yb_G} {X : List (FieldType × Nat)} {a1 : Int32} {s : yb_S} {out : (Int32 × yb_S)} (h : f_X11_leave a1 s = some out) : Ct G yX11_leave cX11_leave 2 (Option.some .boolean) (yb_rm 4) [.ref (yb_ad G 0), .int a1] (yb_mk s X) (yb_qi X out.2 out.1) := by
  refine Ct.of (own := RX11) (ini := false) (vs := [some (.ref (yb_ad G 0)), some (.int a1)]) ⟨rfl, by decide +kernel⟩ (fun h => by cases h) (Nat.le_of_ble_eq_true rfl) rfl ?_
  unfold f_X11_leave at h
  refine n_aload_n (i := 0) dX11_leave_0 rfl rfl ?_
  refine p_getr fl_X11_10 (sh_0 _ _) rfl (rR_0_0 _ _) dX11_leave_1 ?_
  refine n_iload_n (i := 1) dX11_leave_4 rfl rfl ?_
  obtain ⟨q1, hq1, h⟩ := yb_bind h
  refine p_callVi (As := [.int a1]) (t_X8_isHere hq1) cv_X11_113 (sh_1 _ _) rfl rfl (Nat.le_of_ble_eq_true rfl) dX11_leave_5 (yb_rok (Nat.le_of_ble_eq_true rfl) (by decide)) ⟨rfl, rfl⟩ ⟨Nat.le_refl _, Nat.le_refl _⟩ (fun k2 => ?_)
  refine n_if_ne 13 dX11_leave_8 (by decide) (fun c3 => ?_) (fun c3 => ?_)
  · have h := yb_ifn c3 h
    refine n_aload_n (i := 0) dX11_leave_13 rfl rfl ?_
    refine p_getr fl_X11_10 (sh_0 _ _) rfl (rR_0_0 _ _) dX11_leave_14 ?_
    refine n_iload_n (i := 1) dX11_leave_17 rfl rfl ?_
    obtain ⟨q4, hq4, h⟩ := yb_bind h
    refine p_callVv (As := [.int a1]) (t_X8_unsettle hq4) cv_X11_246 (sh_1 _ _) rfl rfl (Nat.le_of_ble_eq_true rfl) dX11_leave_18 (yb_rok (Nat.le_of_ble_eq_true rfl) (by decide)) ⟨rfl, rfl⟩ ⟨Nat.le_refl _, Nat.le_refl _⟩ (fun k5 => ?_)
    refine n_aload_n (i := 0) dX11_leave_21 rfl rfl ?_
    refine p_getr fl_X11_10 (sh_0 _ _) rfl (rR_0_0 _ _) dX11_leave_22 ?_
    refine p_getr fl_X11_100 (sh_1 _ _) rfl (rR_1_2 _ _) dX11_leave_25 ?_
    refine p_getr fl_X11_259 (sh_21 _ _) rfl (rR_21_7 _ _) dX11_leave_28 ?_
    refine n_iload_n (i := 1) dX11_leave_31 rfl rfl ?_
    refine n_iconst (2 : Int32) dX11_leave_32 ic_2 ?_
    obtain ⟨s6, hs6, h⟩ := yb_bind h
    refine p_iast hs6 (sh_28 _ _) dX11_leave_33 ?_
    refine n_aload_n (i := 0) dX11_leave_34 rfl rfl ?_
    refine p_getr fl_X11_10 (sh_0 _ _) rfl (rR_0_0 _ _) dX11_leave_35 ?_
    refine n_dup dX11_leave_38 rfl ?_
    refine p_geti fl_X11_110 (sh_1 _ _) rfl dX11_leave_39 ?_
    refine n_aload_n (i := 0) dX11_leave_42 rfl rfl ?_
    refine p_getr fl_X11_10 (sh_0 _ _) rfl (rR_0_0 _ _) dX11_leave_43 ?_
    refine p_getr fl_X11_100 (sh_1 _ _) rfl (rR_1_2 _ _) dX11_leave_46 ?_
    refine p_getr fl_X11_262 (sh_21 _ _) rfl (rR_21_1 _ _) dX11_leave_49 ?_
    refine n_iload_n (i := 1) dX11_leave_52 rfl rfl ?_
    obtain ⟨v7, hv7, h⟩ := yb_bind h
    refine p_iald hv7 (sh_22 _ _) dX11_leave_53 ?_
    refine n_isub dX11_leave_54 ?_
    obtain ⟨s8, hs8, h⟩ := yb_bind h
    refine p_puti hs8 fp_X11_110 (sh_1 _ _) rfl rfl rfl dX11_leave_55 ?_
    refine n_iconst (1 : Int32) dX11_leave_58 ic_1 ?_
    cases h
    exact n_iret dX11_leave_59 rfl (by decide) (Nat.le_refl _) (Nat.le_refl _) ⟨rfl, rfl⟩
  · have h := yb_ifp c3 h
    refine n_iconst (0 : Int32) dX11_leave_11 ic_0 ?_
    cases h
    exact n_iret dX11_leave_12 rfl (by decide) (Nat.le_refl _) (Nat.le_refl _) ⟨rfl, rfl⟩
set_option maxHeartbeats 4000000 in
set_option maxRecDepth 20000 in
theorem tj_X7_matchOf_59 {G : yb_G} {X : List (FieldType × Nat)} {rc7 : (Int32 → Int32 → Int32 → Option Int32)} {x1 : Int32} {x2 : Int32} {x3 : Int32} {x4 : Int32} {s : yb_S} {out : Int32} (hrc7 : ∀ (x2' : Int32) (x3' : Int32) (x4' : Int32), rc7 x2' x3' x4' = some out → Rn G RX7 cX7_matchOf 6 (Option.some .int) false (yb_rm 3) (yb_qi X s out) 0 0 7 [some (.ref (yb_ad G 41)), some (.int x1), some (.int x2'), some (.int x3'), some (.int x4'), none] [] (yb_mk s X)) (h : j_X7_matchOf_59 rc7 x1 x2 x3 x4 s = some out) : Rn G RX7 cX7_matchOf 6 (Option.some .int) false (yb_rm 3) (yb_qi X s out) 0 0 59 [some (.ref (yb_ad G 41)), some (.int x1), some (.int x2), some (.int x3), some (.int x4), none] [] (yb_mk s X) := by
  unfold j_X7_matchOf_59 at h
  refine n_iinc (vs' := [some (.ref (yb_ad G 41)), some (.int x1), some (.int x2), some (.int x3), some (.int (x4 + (1 : Int32))), none]) dX7_matchOf_59 rfl (ii_1 _) (Nat.le_of_ble_eq_true rfl) rfl rfl ?_
  refine n_goto 7 dX7_matchOf_62 (by decide) ?_
  exact p_jump (hrc7 x2 x3 (x4 + (1 : Int32)) h) (And.intro rfl (And.intro rfl (And.intro rfl (And.intro rfl (And.intro rfl trivial)))))
set_option maxHeartbeats 4000000 in
set_option maxRecDepth 20000 in
theorem t_l_X7_matchOf_7 {G : yb_G} {X : List (FieldType × Nat)} {x1 : Int32} {s : yb_S} {out : Int32} : ∀ (k0 : Nat) (x2 : Int32) (x3 : Int32) (x4 : Int32), l_X7_matchOf_7 x1 s k0 x2 x3 x4 = some out → Rn G RX7 cX7_matchOf 6 (Option.some .int) false (yb_rm 3) (yb_qi X s out) 0 0 7 [some (.ref (yb_ad G 41)), some (.int x1), some (.int x2), some (.int x3), some (.int x4), none] [] (yb_mk s X) := by
  intro k0
  induction k0 with
  | zero => intro x2 x3 x4 h; cases h
  | succ k0 ih =>
    intro x2 x3 x4 h
    have h : f_X7_matchOf_7 (fun x2 x3 x4 => l_X7_matchOf_7 x1 s k0 x2 x3 x4) x1 s x2 x3 x4 = some out := h
    have hrc7 := ih
    unfold f_X7_matchOf_7 at h
    refine n_iload dX7_matchOf_7 rfl ?_
    refine n_aload_n (i := 0) dX7_matchOf_9 rfl rfl ?_
    refine p_geti fl_X7_48 (sh_41 _ _) rfl dX7_matchOf_10 ?_
    refine n_icmp_ge 65 dX7_matchOf_13 (by decide) (fun c1 => ?_) (fun c1 => ?_)
    · have h := yb_ifp c1 h
      refine n_iload_n (i := 2) dX7_matchOf_65 rfl rfl ?_
      cases h
      exact n_iret dX7_matchOf_66 rfl rfl (Nat.le_refl _) (Nat.le_refl _) ⟨rfl, rfl⟩
    · have h := yb_ifn c1 h
      refine n_aload_n (i := 0) dX7_matchOf_16 rfl rfl ?_
      refine n_iload_n (i := 1) dX7_matchOf_17 rfl rfl ?_
      refine n_iload dX7_matchOf_18 rfl ?_
      obtain ⟨q2, hq2, h⟩ := yb_bind h
      refine p_callVi (As := [.int x1, .int x4]) (t_X7_canBeAlike hq2) cv_X7_70 (sh_41 _ _) rfl rfl (Nat.le_of_ble_eq_true rfl) dX7_matchOf_20 (yb_rok (Nat.le_of_ble_eq_true rfl) (by decide)) ⟨rfl, rfl⟩ ⟨Nat.le_refl _, Nat.le_refl _⟩ (fun k3 => ?_)
      refine n_if_eq 59 dX7_matchOf_23 (by decide) (fun c4 => ?_) (fun c4 => ?_)
      · have h := yb_ifp c4 h
        exact p_jump (tj_X7_matchOf_59 hrc7 h) (And.intro rfl (And.intro rfl (And.intro rfl (And.intro rfl (And.intro rfl trivial)))))
      · have h := yb_ifn c4 h
        refine n_aload_n (i := 0) dX7_matchOf_26 rfl rfl ?_
        refine n_iload_n (i := 1) dX7_matchOf_27 rfl rfl ?_
        refine n_aload_n (i := 0) dX7_matchOf_28 rfl rfl ?_
        refine p_getr fl_X7_15 (sh_41 _ _) rfl (rR_41_2 _ _) dX7_matchOf_29 ?_
        refine n_iload dX7_matchOf_32 rfl ?_
        obtain ⟨v5, hv5, h⟩ := yb_bind h
        refine p_iald hv5 (sh_43 _ _) dX7_matchOf_34 ?_
        refine n_aload_n (i := 0) dX7_matchOf_35 rfl rfl ?_
        refine p_getr fl_X7_18 (sh_41 _ _) rfl (rR_41_3 _ _) dX7_matchOf_36 ?_
        refine n_iload dX7_matchOf_39 rfl ?_
        obtain ⟨v6, hv6, h⟩ := yb_bind h
        refine p_iald hv6 (sh_44 _ _) dX7_matchOf_41 ?_
        obtain ⟨q7, hq7, h⟩ := yb_bind h
        refine p_callVi (As := [.int x1, .int v5, .int v6]) (t_X7_points hq7) cv_X7_73 (sh_41 _ _) rfl rfl (Nat.le_of_ble_eq_true rfl) dX7_matchOf_42 (yb_rok (Nat.le_of_ble_eq_true rfl) (by decide)) ⟨rfl, rfl⟩ ⟨Nat.le_refl _, Nat.le_refl _⟩ (fun k8 => ?_)
        refine n_istore (i := 5) (vs' := [some (.ref (yb_ad G 41)), some (.int x1), some (.int x2), some (.int x3), some (.int x4), some (.int q7)]) dX7_matchOf_45 (Nat.le_of_ble_eq_true rfl) rfl rfl ?_
        refine n_iload dX7_matchOf_47 rfl ?_
        refine n_iload_n (i := 3) dX7_matchOf_49 rfl rfl ?_
        refine n_icmp_le 59 dX7_matchOf_50 (by decide) (fun c9 => ?_) (fun c9 => ?_)
        · have h := yb_ifp c9 h
          exact p_jump (tj_X7_matchOf_59 hrc7 h) (And.intro rfl (And.intro rfl (And.intro rfl (And.intro rfl (And.intro rfl trivial)))))
        · have h := yb_ifn c9 h
          refine n_iload dX7_matchOf_53 rfl ?_
          refine n_istore_n (i := 2) (vs' := [some (.ref (yb_ad G 41)), some (.int x1), some (.int x4), some (.int x3), some (.int x4), some (.int q7)]) dX7_matchOf_55 rfl (Nat.le_of_ble_eq_true rfl) rfl rfl ?_
          refine n_iload dX7_matchOf_56 rfl ?_
          refine n_istore_n (i := 3) (vs' := [some (.ref (yb_ad G 41)), some (.int x1), some (.int x4), some (.int q7), some (.int x4), some (.int q7)]) dX7_matchOf_58 rfl (Nat.le_of_ble_eq_true rfl) rfl rfl ?_
          exact p_jump (tj_X7_matchOf_59 hrc7 h) (And.intro rfl (And.intro rfl (And.intro rfl (And.intro rfl (And.intro rfl trivial)))))
set_option maxHeartbeats 4000000 in
set_option maxRecDepth 20000 in
theorem tl_X7_matchOf_7 {G : yb_G} {X : List (FieldType × Nat)} {x1 : Int32} {s : yb_S} {out : Int32} {x2 : Int32} {x3 : Int32} {x4 : Int32} (h : l_X7_matchOf_7 x1 s yb_N x2 x3 x4 = some out) : Rn G RX7 cX7_matchOf 6 (Option.some .int) false (yb_rm 3) (yb_qi X s out) 0 0 7 [some (.ref (yb_ad G 41)), some (.int x1), some (.int x2), some (.int x3), some (.int x4), none] [] (yb_mk s X) := t_l_X7_matchOf_7 _ _ _ _ h
set_option maxHeartbeats 4000000 in
set_option maxRecDepth 20000 in
theorem t_X7_matchOf {G : yb_G} {X : List (FieldType × Nat)} {a1 : Int32} {s : yb_S} {out : Int32} (h : f_X7_matchOf a1 s = some out) : Ct G yX7_matchOf cX7_matchOf 6 (Option.some .int) (yb_rm 3) [.ref (yb_ad G 41), .int a1] (yb_mk s X) (yb_qi X s out) := by
  refine Ct.of (own := RX7) (ini := false) (vs := [some (.ref (yb_ad G 41)), some (.int a1), none, none, none, none]) ⟨rfl, by decide +kernel⟩ (fun h => by cases h) (Nat.le_of_ble_eq_true rfl) rfl ?_
  unfold f_X7_matchOf at h
  refine n_iconst (-1 : Int32) dX7_matchOf_0 ic_m1 ?_
  refine n_istore_n (i := 2) (vs' := [some (.ref (yb_ad G 41)), some (.int a1), some (.int (-1 : Int32)), none, none, none]) dX7_matchOf_1 rfl (Nat.le_of_ble_eq_true rfl) rfl rfl ?_
  refine n_iconst (3 : Int32) dX7_matchOf_2 ic_3 ?_
  refine n_istore_n (i := 3) (vs' := [some (.ref (yb_ad G 41)), some (.int a1), some (.int (-1 : Int32)), some (.int (3 : Int32)), none, none]) dX7_matchOf_3 rfl (Nat.le_of_ble_eq_true rfl) rfl rfl ?_
  refine n_iconst (0 : Int32) dX7_matchOf_4 ic_0 ?_
  refine n_istore (i := 4) (vs' := [some (.ref (yb_ad G 41)), some (.int a1), some (.int (-1 : Int32)), some (.int (3 : Int32)), some (.int (0 : Int32)), none]) dX7_matchOf_5 (Nat.le_of_ble_eq_true rfl) rfl rfl ?_
  exact p_jump (tl_X7_matchOf_7 h) (And.intro rfl (And.intro rfl (And.intro rfl (And.intro rfl (And.intro rfl trivial)))))
set_option maxHeartbeats 4000000 in
set_option maxRecDepth 20000 in
theorem t_X11_match {G : yb_G} {X : List (FieldType × Nat)} {a1 : Int32} {s : yb_S} {out : Int32} (h : f_X11_match a1 s = some out) : Ct G yX11_match cX11_match 2 (Option.some .int) (yb_rm 4) [.ref (yb_ad G 0), .int a1] (yb_mk s X) (yb_qi X s out) := by
  refine Ct.of (own := RX11) (ini := false) (vs := [some (.ref (yb_ad G 0)), some (.int a1)]) ⟨rfl, by decide +kernel⟩ (fun h => by cases h) (Nat.le_of_ble_eq_true rfl) rfl ?_
  unfold f_X11_match at h
  refine n_aload_n (i := 0) dX11_match_0 rfl rfl ?_
  refine p_getr fl_X11_10 (sh_0 _ _) rfl (rR_0_0 _ _) dX11_match_1 ?_
  refine p_getr fl_X11_128 (sh_1 _ _) rfl (rR_1_3 _ _) dX11_match_4 ?_
  refine n_iload_n (i := 1) dX11_match_7 rfl rfl ?_
  obtain ⟨q1, hq1, h⟩ := yb_bind h
  refine p_callVi (As := [.int a1]) (t_X7_matchOf hq1) cv_X11_150 (sh_41 _ _) rfl rfl (Nat.le_of_ble_eq_true rfl) dX11_match_8 (yb_rok (Nat.le_of_ble_eq_true rfl) (by decide)) ⟨rfl, rfl⟩ ⟨Nat.le_refl _, Nat.le_refl _⟩ (fun k2 => ?_)
  cases h
  exact n_iret dX11_match_11 rfl rfl (Nat.le_refl _) (Nat.le_refl _) ⟨rfl, rfl⟩
set_option maxHeartbeats 4000000 in
set_option maxRecDepth 20000 in
theorem tj_X8_brokenBy_36 {G : yb_G} {X : List (FieldType × Nat)} {x1 : Int32} {x2 : Int32} {x3 : Int32} {x4 : Int32} {s : yb_S} {out : Int32} (h : j_X8_brokenBy_36 x1 x2 x3 x4 s = some out) : Rn G RX8 cX8_brokenBy 5 (Option.some .int) false (yb_rm 2) (yb_qi X s out) 0 0 36 [some (.ref (yb_ad G 1)), some (.int x1), some (.int x2), some (.int x3), some (.int x4)] [] (yb_mk s X) := by
  unfold j_X8_brokenBy_36 at h
  refine n_aload_n (i := 0) dX8_brokenBy_36 rfl rfl ?_
  refine p_getr fl_X8_12 (sh_1 _ _) rfl (rR_1_0 _ _) dX8_brokenBy_37 ?_
  refine n_iload_n (i := 3) dX8_brokenBy_40 rfl rfl ?_
  refine n_aload_n (i := 0) dX8_brokenBy_41 rfl rfl ?_
  refine p_getr fl_X8_28 (sh_1 _ _) rfl (rR_1_2 _ _) dX8_brokenBy_42 ?_
  refine p_getr fl_X8_161 (sh_21 _ _) rfl (rR_21_5 _ _) dX8_brokenBy_45 ?_
  refine n_iload_n (i := 1) dX8_brokenBy_48 rfl rfl ?_
  obtain ⟨v4, hv4, h⟩ := yb_bind h
  refine p_iald hv4 (sh_26 _ _) dX8_brokenBy_49 ?_
  obtain ⟨q5, hq5, h⟩ := yb_bind h
  refine p_callVi (As := [.int x3, .int v4]) (t_X10_wants hq5) cv_X8_164 (sh_2 _ _) rfl rfl (Nat.le_of_ble_eq_true rfl) dX8_brokenBy_50 (yb_rok (Nat.le_of_ble_eq_true rfl) (by decide)) ⟨rfl, rfl⟩ ⟨Nat.le_refl _, Nat.le_refl _⟩ (fun k6 => ?_)
  refine n_if_eq 82 dX8_brokenBy_53 (by decide) (fun c7 => ?_) (fun c7 => ?_)
  · have h := yb_ifp c7 h
    refine n_iload dX8_brokenBy_82 rfl ?_
    cases h
    exact n_iret dX8_brokenBy_84 rfl rfl (Nat.le_refl _) (Nat.le_refl _) ⟨rfl, rfl⟩
  · have h := yb_ifn c7 h
    refine n_aload_n (i := 0) dX8_brokenBy_56 rfl rfl ?_
    refine p_getr fl_X8_12 (sh_1 _ _) rfl (rR_1_0 _ _) dX8_brokenBy_57 ?_
    refine n_iload_n (i := 2) dX8_brokenBy_60 rfl rfl ?_
    refine n_aload_n (i := 0) dX8_brokenBy_61 rfl rfl ?_
    refine p_getr fl_X8_28 (sh_1 _ _) rfl (rR_1_2 _ _) dX8_brokenBy_62 ?_
    refine p_getr fl_X8_161 (sh_21 _ _) rfl (rR_21_5 _ _) dX8_brokenBy_65 ?_
    refine n_iload_n (i := 1) dX8_brokenBy_68 rfl rfl ?_
    obtain ⟨v8, hv8, h⟩ := yb_bind h
    refine p_iald hv8 (sh_26 _ _) dX8_brokenBy_69 ?_
    obtain ⟨q9, hq9, h⟩ := yb_bind h
    refine p_callVi (As := [.int x2, .int v8]) (t_X10_wants hq9) cv_X8_164 (sh_2 _ _) rfl rfl (Nat.le_of_ble_eq_true rfl) dX8_brokenBy_70 (yb_rok (Nat.le_of_ble_eq_true rfl) (by decide)) ⟨rfl, rfl⟩ ⟨Nat.le_refl _, Nat.le_refl _⟩ (fun k10 => ?_)
    refine n_if_ne 82 dX8_brokenBy_73 (by decide) (fun c11 => ?_) (fun c11 => ?_)
    · have h := yb_ifn c11 h
      refine n_iload dX8_brokenBy_82 rfl ?_
      cases h
      exact n_iret dX8_brokenBy_84 rfl rfl (Nat.le_refl _) (Nat.le_refl _) ⟨rfl, rfl⟩
    · have h := yb_ifp c11 h
      refine n_iload dX8_brokenBy_76 rfl ?_
      refine n_iconst (2 : Int32) dX8_brokenBy_78 ic_2 ?_
      refine n_ior dX8_brokenBy_79 ?_
      refine n_istore (i := 4) (vs' := [some (.ref (yb_ad G 1)), some (.int x1), some (.int x2), some (.int x3), some (.int (x4 ||| (2 : Int32)))]) dX8_brokenBy_80 (Nat.le_of_ble_eq_true rfl) rfl rfl ?_
      refine n_iload dX8_brokenBy_82 rfl ?_
      cases h
      exact n_iret dX8_brokenBy_84 rfl rfl (Nat.le_refl _) (Nat.le_refl _) ⟨rfl, rfl⟩
set_option maxHeartbeats 4000000 in
set_option maxRecDepth 20000 in
theorem t_X8_brokenBy {G : yb_G} {X : List (FieldType × Nat)} {a1 : Int32} {a2 : Int32} {s : yb_S} {out : Int32} (h : f_X8_brokenBy a1 a2 s = some out) : Ct G yX8_brokenBy cX8_brokenBy 5 (Option.some .int) (yb_rm 2) [.ref (yb_ad G 1), .int a1, .int a2] (yb_mk s X) (yb_qi X s out) := by
  refine Ct.of (own := RX8) (ini := false) (vs := [some (.ref (yb_ad G 1)), some (.int a1), some (.int a2), none, none]) ⟨rfl, by decide +kernel⟩ (fun h => by cases h) (Nat.le_of_ble_eq_true rfl) rfl ?_
  unfold f_X8_brokenBy at h
  refine n_aload_n (i := 0) dX8_brokenBy_0 rfl rfl ?_
  refine p_getr fl_X8_28 (sh_1 _ _) rfl (rR_1_2 _ _) dX8_brokenBy_1 ?_
  refine p_getr fl_X8_75 (sh_21 _ _) rfl (rR_21_9 _ _) dX8_brokenBy_4 ?_
  refine n_iload_n (i := 1) dX8_brokenBy_7 rfl rfl ?_
  obtain ⟨v1, hv1, h⟩ := yb_bind h
  refine p_iald hv1 (sh_30 _ _) dX8_brokenBy_8 ?_
  refine n_istore_n (i := 3) (vs' := [some (.ref (yb_ad G 1)), some (.int a1), some (.int a2), some (.int v1), none]) dX8_brokenBy_9 rfl (Nat.le_of_ble_eq_true rfl) rfl rfl ?_
  refine n_iconst (0 : Int32) dX8_brokenBy_10 ic_0 ?_
  refine n_istore (i := 4) (vs' := [some (.ref (yb_ad G 1)), some (.int a1), some (.int a2), some (.int v1), some (.int (0 : Int32))]) dX8_brokenBy_11 (Nat.le_of_ble_eq_true rfl) rfl rfl ?_
  refine n_aload_n (i := 0) dX8_brokenBy_13 rfl rfl ?_
  refine p_getr fl_X8_28 (sh_1 _ _) rfl (rR_1_2 _ _) dX8_brokenBy_14 ?_
  refine p_getr fl_X8_83 (sh_21 _ _) rfl (rR_21_2 _ _) dX8_brokenBy_17 ?_
  refine n_iload_n (i := 1) dX8_brokenBy_20 rfl rfl ?_
  obtain ⟨v2, hv2, h⟩ := yb_bind h
  refine p_iald hv2 (sh_23 _ _) dX8_brokenBy_21 ?_
  refine n_if_le 36 dX8_brokenBy_22 (by decide) (fun c3 => ?_) (fun c3 => ?_)
  · have h := yb_ifp c3 h
    exact p_jump (tj_X8_brokenBy_36 h) (And.intro rfl (And.intro rfl (And.intro rfl (And.intro rfl (And.intro rfl trivial)))))
  · have h := yb_ifn c3 h
    refine n_iload_n (i := 2) dX8_brokenBy_25 rfl rfl ?_
    refine n_iload_n (i := 3) dX8_brokenBy_26 rfl rfl ?_
    refine n_icmp_eq 36 dX8_brokenBy_27 (by decide) (fun c12 => ?_) (fun c12 => ?_)
    · have h := yb_ifp c12 h
      exact p_jump (tj_X8_brokenBy_36 h) (And.intro rfl (And.intro rfl (And.intro rfl (And.intro rfl (And.intro rfl trivial)))))
    · have h := yb_ifn c12 h
      refine n_iload dX8_brokenBy_30 rfl ?_
      refine n_iconst (1 : Int32) dX8_brokenBy_32 ic_1 ?_
      refine n_ior dX8_brokenBy_33 ?_
      refine n_istore (i := 4) (vs' := [some (.ref (yb_ad G 1)), some (.int a1), some (.int a2), some (.int v1), some (.int ((0 : Int32) ||| (1 : Int32)))]) dX8_brokenBy_34 (Nat.le_of_ble_eq_true rfl) rfl rfl ?_
      exact p_jump (tj_X8_brokenBy_36 h) (And.intro rfl (And.intro rfl (And.intro rfl (And.intro rfl (And.intro rfl trivial)))))
set_option maxHeartbeats 4000000 in
set_option maxRecDepth 20000 in
theorem t_X11_move {G : yb_G} {X : List (FieldType × Nat)} {a1 : Int32} {a2 : Int32} {s : yb_S} {out : (Int32 × yb_S)} (h : f_X11_move a1 a2 s = some out) : Ct G yX11_move cX11_move 4 (Option.some .int) (yb_rm 6) [.ref (yb_ad G 0), .int a1, .int a2] (yb_mk s X) (yb_qi X out.2 out.1) := by
  refine Ct.of (own := RX11) (ini := false) (vs := [some (.ref (yb_ad G 0)), some (.int a1), some (.int a2), none]) ⟨rfl, by decide +kernel⟩ (fun h => by cases h) (Nat.le_of_ble_eq_true rfl) rfl ?_
  unfold f_X11_move at h
  refine n_aload_n (i := 0) dX11_move_0 rfl rfl ?_
  refine p_getr fl_X11_10 (sh_0 _ _) rfl (rR_0_0 _ _) dX11_move_1 ?_
  refine n_iload_n (i := 1) dX11_move_4 rfl rfl ?_
  refine n_iconst (1 : Int32) dX11_move_5 ic_1 ?_
  obtain ⟨q1, hq1, h⟩ := yb_bind h
  refine p_callVi (As := [.int a1, .int (1 : Int32)]) (t_X8_isIn hq1) cv_X11_240 (sh_1 _ _) rfl rfl (Nat.le_of_ble_eq_true rfl) dX11_move_6 (yb_rok (Nat.le_of_ble_eq_true rfl) (by decide)) ⟨rfl, rfl⟩ ⟨Nat.le_refl _, Nat.le_refl _⟩ (fun k2 => ?_)
  refine n_if_ne 14 dX11_move_9 (by decide) (fun c3 => ?_) (fun c3 => ?_)
  · have h := yb_ifn c3 h
    refine n_iload_n (i := 2) dX11_move_14 rfl rfl ?_
    refine n_iconst (-1 : Int32) dX11_move_15 ic_m1 ?_
    refine n_icmp_ne 39 dX11_move_16 (by decide) (fun c4 => ?_) (fun c4 => ?_)
    · have h := yb_ifn c4 h
      refine n_aload_n (i := 0) dX11_move_39 rfl rfl ?_
      refine p_getr fl_X11_10 (sh_0 _ _) rfl (rR_0_0 _ _) dX11_move_40 ?_
      refine p_getr fl_X11_77 (sh_1 _ _) rfl (rR_1_1 _ _) dX11_move_43 ?_
      refine n_iload_n (i := 2) dX11_move_46 rfl rfl ?_
      obtain ⟨q5, hq5, h⟩ := yb_bind h
      refine p_callVi (As := [.int a2]) (t_X4_has hq5) cv_X11_223 (sh_13 _ _) rfl rfl (Nat.le_of_ble_eq_true rfl) dX11_move_47 (yb_rok (Nat.le_of_ble_eq_true rfl) (by decide)) ⟨rfl, rfl⟩ ⟨Nat.le_refl _, Nat.le_refl _⟩ (fun k6 => ?_)
      refine n_if_eq 81 dX11_move_50 (by decide) (fun c7 => ?_) (fun c7 => ?_)
      · have h := yb_ifp c7 h
        refine n_iconst (-1 : Int32) dX11_move_81 ic_m1 ?_
        cases h
        exact n_iret dX11_move_82 rfl rfl (Nat.le_refl _) (Nat.le_refl _) ⟨rfl, rfl⟩
      · have h := yb_ifn c7 h
        refine n_aload_n (i := 0) dX11_move_53 rfl rfl ?_
        refine p_getr fl_X11_10 (sh_0 _ _) rfl (rR_0_0 _ _) dX11_move_54 ?_
        refine p_getr fl_X11_100 (sh_1 _ _) rfl (rR_1_2 _ _) dX11_move_57 ?_
        refine p_getr fl_X11_249 (sh_21 _ _) rfl (rR_21_8 _ _) dX11_move_60 ?_
        refine n_iload_n (i := 1) dX11_move_63 rfl rfl ?_
        obtain ⟨v8, hv8, h⟩ := yb_bind h
        refine p_iald hv8 (sh_29 _ _) dX11_move_64 ?_
        refine n_iload_n (i := 2) dX11_move_65 rfl rfl ?_
        refine n_icmp_eq 81 dX11_move_66 (by decide) (fun c9 => ?_) (fun c9 => ?_)
        · have h := yb_ifp c9 h
          refine n_iconst (-1 : Int32) dX11_move_81 ic_m1 ?_
          cases h
          exact n_iret dX11_move_82 rfl rfl (Nat.le_refl _) (Nat.le_refl _) ⟨rfl, rfl⟩
        · have h := yb_ifn c9 h
          refine n_aload_n (i := 0) dX11_move_69 rfl rfl ?_
          refine p_getr fl_X11_10 (sh_0 _ _) rfl (rR_0_0 _ _) dX11_move_70 ?_
          refine n_iload_n (i := 1) dX11_move_73 rfl rfl ?_
          refine n_iload_n (i := 2) dX11_move_74 rfl rfl ?_
          obtain ⟨q10, hq10, h⟩ := yb_bind h
          refine p_callVi (As := [.int a1, .int a2]) (t_X8_barOf hq10) cv_X11_224 (sh_1 _ _) rfl rfl (Nat.le_of_ble_eq_true rfl) dX11_move_75 (yb_rok (Nat.le_of_ble_eq_true rfl) (by decide)) ⟨rfl, rfl⟩ ⟨Nat.le_refl _, Nat.le_refl _⟩ (fun k11 => ?_)
          refine n_if_eq 83 dX11_move_78 (by decide) (fun c12 => ?_) (fun c12 => ?_)
          · have h := yb_ifp c12 h
            refine n_aload_n (i := 0) dX11_move_83 rfl rfl ?_
            refine p_getr fl_X11_10 (sh_0 _ _) rfl (rR_0_0 _ _) dX11_move_84 ?_
            refine n_iload_n (i := 1) dX11_move_87 rfl rfl ?_
            refine n_aload_n (i := 0) dX11_move_88 rfl rfl ?_
            refine p_getr fl_X11_10 (sh_0 _ _) rfl (rR_0_0 _ _) dX11_move_89 ?_
            refine p_getr fl_X11_77 (sh_1 _ _) rfl (rR_1_1 _ _) dX11_move_92 ?_
            refine p_getr fl_X11_252 (sh_13 _ _) rfl (rR_13_1 _ _) dX11_move_95 ?_
            refine n_iload_n (i := 2) dX11_move_98 rfl rfl ?_
            obtain ⟨v13, hv13, h⟩ := yb_bind h
            refine p_iald hv13 (sh_14 _ _) dX11_move_99 ?_
            obtain ⟨q14, hq14, h⟩ := yb_bind h
            refine p_callVi (As := [.int a1, .int v13]) (t_X8_brokenBy hq14) cv_X11_243 (sh_1 _ _) rfl rfl (Nat.le_of_ble_eq_true rfl) dX11_move_100 (yb_rok (Nat.le_of_ble_eq_true rfl) (by decide)) ⟨rfl, rfl⟩ ⟨Nat.le_refl _, Nat.le_refl _⟩ (fun k15 => ?_)
            refine n_istore_n (i := 3) (vs' := [some (.ref (yb_ad G 0)), some (.int a1), some (.int a2), some (.int q14)]) dX11_move_103 rfl (Nat.le_of_ble_eq_true rfl) rfl rfl ?_
            refine n_aload_n (i := 0) dX11_move_104 rfl rfl ?_
            refine p_getr fl_X11_10 (sh_0 _ _) rfl (rR_0_0 _ _) dX11_move_105 ?_
            refine n_iload_n (i := 1) dX11_move_108 rfl rfl ?_
            obtain ⟨q16, hq16, h⟩ := yb_bind h
            refine p_callVv (As := [.int a1]) (t_X8_unsettle hq16) cv_X11_246 (sh_1 _ _) rfl rfl (Nat.le_of_ble_eq_true rfl) dX11_move_109 (yb_rok (Nat.le_of_ble_eq_true rfl) (by decide)) ⟨rfl, rfl⟩ ⟨Nat.le_refl _, Nat.le_refl _⟩ (fun k17 => ?_)
            refine n_aload_n (i := 0) dX11_move_112 rfl rfl ?_
            refine p_getr fl_X11_10 (sh_0 _ _) rfl (rR_0_0 _ _) dX11_move_113 ?_
            refine n_iload_n (i := 1) dX11_move_116 rfl rfl ?_
            refine n_iload_n (i := 2) dX11_move_117 rfl rfl ?_
            obtain ⟨q18, hq18, h⟩ := yb_bind h
            refine p_callVv (As := [.int a1, .int a2]) (t_X8_settle hq18) cv_X11_255 (sh_1 _ _) rfl rfl (Nat.le_of_ble_eq_true rfl) dX11_move_118 (yb_rok (Nat.le_of_ble_eq_true rfl) (by decide)) ⟨rfl, rfl⟩ ⟨Nat.le_refl _, Nat.le_refl _⟩ (fun k19 => ?_)
            refine n_iload_n (i := 3) dX11_move_121 rfl rfl ?_
            cases h
            exact n_iret dX11_move_122 rfl rfl (Nat.le_refl _) (Nat.le_refl _) ⟨rfl, rfl⟩
          · have h := yb_ifn c12 h
            refine n_iconst (-1 : Int32) dX11_move_81 ic_m1 ?_
            cases h
            exact n_iret dX11_move_82 rfl rfl (Nat.le_refl _) (Nat.le_refl _) ⟨rfl, rfl⟩
    · have h := yb_ifp c4 h
      refine n_aload_n (i := 0) dX11_move_19 rfl rfl ?_
      refine p_getr fl_X11_10 (sh_0 _ _) rfl (rR_0_0 _ _) dX11_move_20 ?_
      refine n_iload_n (i := 1) dX11_move_23 rfl rfl ?_
      refine n_iconst (-1 : Int32) dX11_move_24 ic_m1 ?_
      obtain ⟨q20, hq20, h⟩ := yb_bind h
      refine p_callVi (As := [.int a1, .int (-1 : Int32)]) (t_X8_brokenBy hq20) cv_X11_243 (sh_1 _ _) rfl rfl (Nat.le_of_ble_eq_true rfl) dX11_move_25 (yb_rok (Nat.le_of_ble_eq_true rfl) (by decide)) ⟨rfl, rfl⟩ ⟨Nat.le_refl _, Nat.le_refl _⟩ (fun k21 => ?_)
      refine n_istore_n (i := 3) (vs' := [some (.ref (yb_ad G 0)), some (.int a1), some (.int a2), some (.int q20)]) dX11_move_28 rfl (Nat.le_of_ble_eq_true rfl) rfl rfl ?_
      refine n_aload_n (i := 0) dX11_move_29 rfl rfl ?_
      refine p_getr fl_X11_10 (sh_0 _ _) rfl (rR_0_0 _ _) dX11_move_30 ?_
      refine n_iload_n (i := 1) dX11_move_33 rfl rfl ?_
      obtain ⟨q22, hq22, h⟩ := yb_bind h
      refine p_callVv (As := [.int a1]) (t_X8_unsettle hq22) cv_X11_246 (sh_1 _ _) rfl rfl (Nat.le_of_ble_eq_true rfl) dX11_move_34 (yb_rok (Nat.le_of_ble_eq_true rfl) (by decide)) ⟨rfl, rfl⟩ ⟨Nat.le_refl _, Nat.le_refl _⟩ (fun k23 => ?_)
      refine n_iload_n (i := 3) dX11_move_37 rfl rfl ?_
      cases h
      exact n_iret dX11_move_38 rfl rfl (Nat.le_refl _) (Nat.le_refl _) ⟨rfl, rfl⟩
  · have h := yb_ifp c3 h
    refine n_iconst (-1 : Int32) dX11_move_12 ic_m1 ?_
    cases h
    exact n_iret dX11_move_13 rfl rfl (Nat.le_refl _) (Nat.le_refl _) ⟨rfl, rfl⟩
