/-! WALKS: the machine follows the functions, piece 2 of 7 -/
set_option maxHeartbeats 4000000 in
set_option maxRecDepth 20000 in
theorem t_l_X1_takes_51 {G : yb_G} {X : List (FieldType × Nat)} {s : yb_S} {out : (Int32 × yb_S)} : ∀ (k0 : Nat) (x3 : Int32), l_X1_takes_51 s k0 x3 = some out → Rn G RX1 cX1_takes 4 (Option.some .boolean) false (yb_rm 3) (yb_qi X out.2 out.1) 0 0 51 [some (.ref (yb_ad G 128)), none, none, some (.int x3)] [] (yb_mk s X) := by
  intro k0
  induction k0 with
  | zero => intro x3 h; cases h
  | succ k0 ih =>
    intro x3 h
    have h : f_X1_takes_51 (fun x3 => l_X1_takes_51 s k0 x3) s x3 = some out := h
    have hrc51 := ih
    unfold f_X1_takes_51 at h
    refine n_iload_n (i := 3) dX1_takes_51 rfl rfl ?_
    refine n_aload_n (i := 0) dX1_takes_52 rfl rfl ?_
    refine p_geti fl_X1_56 (sh_128 _ _) rfl dX1_takes_53 ?_
    refine n_icmp_ge 83 dX1_takes_56 (by decide) (fun c8 => ?_) (fun c8 => ?_)
    · have h := yb_ifp c8 h
      refine n_aload_n (i := 0) dX1_takes_83 rfl rfl ?_
      refine p_geti fl_X1_56 (sh_128 _ _) rfl dX1_takes_84 ?_
      refine n_if_le 101 dX1_takes_87 (by decide) (fun c9 => ?_) (fun c9 => ?_)
      · have h := yb_ifp c9 h
        refine n_iconst (0 : Int32) dX1_takes_101 ic_0 ?_
        cases h
        exact n_iret dX1_takes_102 rfl (by decide) (Nat.le_refl _) (Nat.le_refl _) ⟨rfl, rfl⟩
      · have h := yb_ifn c9 h
        refine n_aload_n (i := 0) dX1_takes_90 rfl rfl ?_
        refine p_geti fl_X1_65 (sh_128 _ _) rfl dX1_takes_91 ?_
        refine n_if_le 101 dX1_takes_94 (by decide) (fun c10 => ?_) (fun c10 => ?_)
        · have h := yb_ifp c10 h
          refine n_iconst (0 : Int32) dX1_takes_101 ic_0 ?_
          cases h
          exact n_iret dX1_takes_102 rfl (by decide) (Nat.le_refl _) (Nat.le_refl _) ⟨rfl, rfl⟩
        · have h := yb_ifn c10 h
          refine n_iconst (1 : Int32) dX1_takes_97 ic_1 ?_
          refine n_goto 102 dX1_takes_98 (by decide) ?_
          cases h
          exact n_iret dX1_takes_102 rfl (by decide) (Nat.le_refl _) (Nat.le_refl _) ⟨rfl, rfl⟩
    · have h := yb_ifn c8 h
      refine n_aload_n (i := 0) dX1_takes_59 rfl rfl ?_
      refine p_getr fl_X1_36 (sh_128 _ _) rfl (rR_128_0 _ _) dX1_takes_60 ?_
      refine n_aload_n (i := 0) dX1_takes_63 rfl rfl ?_
      refine p_getr fl_X1_15 (sh_128 _ _) rfl (rR_128_8 _ _) dX1_takes_64 ?_
      refine n_iload_n (i := 3) dX1_takes_67 rfl rfl ?_
      obtain ⟨v11, hv11, h⟩ := yb_bind h
      refine p_iald hv11 (sh_130 _ _) dX1_takes_68 ?_
      obtain ⟨q12, hq12, h⟩ := yb_bind h
      refine p_callVi (As := [.int v11]) (t_X8_isHere hq12) cv_X1_70 (sh_1 _ _) rfl rfl (Nat.le_of_ble_eq_true rfl) dX1_takes_69 (yb_rok (Nat.le_of_ble_eq_true rfl) (by decide)) ⟨rfl, rfl⟩ ⟨Nat.le_refl _, Nat.le_refl _⟩ (fun k13 => ?_)
      refine n_if_ne 77 dX1_takes_72 (by decide) (fun c14 => ?_) (fun c14 => ?_)
      · have h := yb_ifn c14 h
        refine n_iinc (vs' := [some (.ref (yb_ad G 128)), none, none, some (.int (x3 + (1 : Int32)))]) dX1_takes_77 rfl (ii_1 _) (Nat.le_of_ble_eq_true rfl) rfl rfl ?_
        refine n_goto 51 dX1_takes_80 (by decide) ?_
        exact p_jump (hrc51 (x3 + (1 : Int32)) h) (And.intro rfl (And.intro rfl trivial))
      · have h := yb_ifp c14 h
        refine n_iconst (0 : Int32) dX1_takes_75 ic_0 ?_
        cases h
        exact n_iret dX1_takes_76 rfl (by decide) (Nat.le_refl _) (Nat.le_refl _) ⟨rfl, rfl⟩
set_option maxHeartbeats 4000000 in
set_option maxRecDepth 20000 in
theorem tl_X1_takes_51 {G : yb_G} {X : List (FieldType × Nat)} {s : yb_S} {out : (Int32 × yb_S)} {x3 : Int32} (h : l_X1_takes_51 s yb_N x3 = some out) : Rn G RX1 cX1_takes 4 (Option.some .boolean) false (yb_rm 3) (yb_qi X out.2 out.1) 0 0 51 [some (.ref (yb_ad G 128)), none, none, some (.int x3)] [] (yb_mk s X) := t_l_X1_takes_51 _ _ h
set_option maxHeartbeats 4000000 in
set_option maxRecDepth 20000 in
theorem t_X1_takes {G : yb_G} {X : List (FieldType × Nat)} {a1 : Int32} {a2 : Int32} {s : yb_S} {out : (Int32 × yb_S)} (h : f_X1_takes a1 a2 s = some out) : Ct G yX1_takes cX1_takes 4 (Option.some .boolean) (yb_rm 3) [.ref (yb_ad G 128), .int a1, .int a2] (yb_mk s X) (yb_qi X out.2 out.1) := by
  refine Ct.of (own := RX1) (ini := false) (vs := [some (.ref (yb_ad G 128)), some (.int a1), some (.int a2), none]) ⟨rfl, by decide +kernel⟩ (fun h => by cases h) (Nat.le_of_ble_eq_true rfl) rfl ?_
  unfold f_X1_takes at h
  refine n_aload_n (i := 0) dX1_takes_0 rfl rfl ?_
  refine n_iload_n (i := 1) dX1_takes_1 rfl rfl ?_
  refine n_aload_n (i := 0) dX1_takes_2 rfl rfl ?_
  refine p_getr fl_X1_36 (sh_128 _ _) rfl (rR_128_0 _ _) dX1_takes_3 ?_
  refine p_getr fl_X1_40 (sh_1 _ _) rfl (rR_1_2 _ _) dX1_takes_6 ?_
  refine p_geti fl_X1_46 (sh_21 _ _) rfl dX1_takes_9 ?_
  refine n_aload_n (i := 0) dX1_takes_12 rfl rfl ?_
  refine p_getr fl_X1_15 (sh_128 _ _) rfl (rR_128_8 _ _) dX1_takes_13 ?_
  obtain ⟨q1, hq1, h⟩ := yb_bind h
  refine p_callSi (As := [.int a1, .int (s.1 21 0), .ref (yb_ad G 130)]) (t_X1_unpacked_130 hq1) cs_X1_52 rfl rfl (Nat.le_of_ble_eq_true rfl) dX1_takes_16 (yb_rok (Nat.le_of_ble_eq_true rfl) (by decide)) ⟨rfl, rfl⟩ ⟨Nat.le_refl _, Nat.le_refl _⟩ (fun k2 => ?_)
  obtain ⟨s3, hs3, h⟩ := yb_bind h
  refine p_puti hs3 fp_X1_56 (sh_128 _ _) rfl rfl rfl dX1_takes_19 ?_
  refine n_aload_n (i := 0) dX1_takes_22 rfl rfl ?_
  refine n_iload_n (i := 2) dX1_takes_23 rfl rfl ?_
  refine n_aload_n (i := 0) dX1_takes_24 rfl rfl ?_
  refine p_getr fl_X1_36 (sh_128 _ _) rfl (rR_128_0 _ _) dX1_takes_25 ?_
  refine p_getr fl_X1_58 (sh_1 _ _) rfl (rR_1_1 _ _) dX1_takes_28 ?_
  refine p_geti fl_X1_62 (sh_13 _ _) rfl dX1_takes_31 ?_
  refine n_aload_n (i := 0) dX1_takes_34 rfl rfl ?_
  refine p_getr fl_X1_18 (sh_128 _ _) rfl (rR_128_9 _ _) dX1_takes_35 ?_
  obtain ⟨q4, hq4, h⟩ := yb_bind h
  refine p_callSi (As := [.int a2, .int (s3.1 13 0), .ref (yb_ad G 131)]) (t_X1_unpacked_131 hq4) cs_X1_52 rfl rfl (Nat.le_of_ble_eq_true rfl) dX1_takes_38 (yb_rok (Nat.le_of_ble_eq_true rfl) (by decide)) ⟨rfl, rfl⟩ ⟨Nat.le_refl _, Nat.le_refl _⟩ (fun k5 => ?_)
  obtain ⟨s6, hs6, h⟩ := yb_bind h
  refine p_puti hs6 fp_X1_65 (sh_128 _ _) rfl rfl rfl dX1_takes_41 ?_
  refine n_aload_n (i := 0) dX1_takes_44 rfl rfl ?_
  refine n_iload_n (i := 1) dX1_takes_45 rfl rfl ?_
  obtain ⟨s7, hs7, h⟩ := yb_bind h
  refine p_puti hs7 fp_X1_67 (sh_128 _ _) rfl rfl rfl dX1_takes_46 ?_
  refine n_iconst (0 : Int32) dX1_takes_49 ic_0 ?_
  refine n_istore_n (i := 3) (vs' := [some (.ref (yb_ad G 128)), some (.int a1), some (.int a2), some (.int (0 : Int32))]) dX1_takes_50 rfl (Nat.le_of_ble_eq_true rfl) rfl rfl ?_
  exact p_jump (tl_X1_takes_51 h) (And.intro rfl (And.intro rfl trivial))
set_option maxHeartbeats 4000000 in
set_option maxRecDepth 20000 in
theorem tj_X1_countLeft_154 {G : yb_G} {X : List (FieldType × Nat)} {rc42 : (Int32 → Int32 → yb_S → Option yb_S)} {x1 : Int32} {x2 : Int32} {y0 : Int32} {y1 : Int32} {y2 : Int32} {s : yb_S} {out : yb_S} (hrc42 : ∀ (x1' : Int32) (x2' : Int32) (s' : yb_S), rc42 x1' x2' s' = some out → Rn G RX1 cX1_countLeft 4 none false (yb_rm 2) (yb_qv X out) 0 0 42 [some (.ref (yb_ad G 128)), some (.int x1'), some (.int x2'), none] [] (yb_mk s' X)) (h : j_X1_countLeft_154 rc42 x1 x2 y0 y1 y2 s = some out) : Rn G RX1 cX1_countLeft 4 none false (yb_rm 2) (yb_qv X out) 0 0 154 [some (.ref (yb_ad G 128)), some (.int x1), some (.int x2), none] [.int y0, .int y1, .int y2, .ref (yb_ad G 136)] (yb_mk s X) := by
  unfold j_X1_countLeft_154 at h
  refine n_iadd dX1_countLeft_154 ?_
  obtain ⟨s17, hs17, h⟩ := yb_bind h
  refine p_iast hs17 (sh_136 _ _) dX1_countLeft_155 ?_
  refine n_iinc (vs' := [some (.ref (yb_ad G 128)), some (.int x1), some (.int (x2 + (-1 : Int32))), none]) dX1_countLeft_156 rfl (ii_m1 _) (Nat.le_of_ble_eq_true rfl) rfl rfl ?_
  refine n_goto 42 dX1_countLeft_159 (by decide) ?_
  exact p_jump (hrc42 x1 (x2 + (-1 : Int32)) s17 h) (And.intro rfl (And.intro rfl (And.intro rfl trivial)))
set_option maxHeartbeats 4000000 in
set_option maxRecDepth 20000 in
theorem t_l_X1_countLeft_42 {G : yb_G} {X : List (FieldType × Nat)} {out : yb_S} : ∀ (k0 : Nat) (x1 : Int32) (x2 : Int32) (s : yb_S), l_X1_countLeft_42 k0 x1 x2 s = some out → Rn G RX1 cX1_countLeft 4 none false (yb_rm 2) (yb_qv X out) 0 0 42 [some (.ref (yb_ad G 128)), some (.int x1), some (.int x2), none] [] (yb_mk s X) := by
  intro k0
  induction k0 with
  | zero => intro x1 x2 s h; cases h
  | succ k0 ih =>
    intro x1 x2 s h
    have h : f_X1_countLeft_42 (fun x1 x2 s => l_X1_countLeft_42 k0 x1 x2 s) x1 x2 s = some out := h
    have hrc42 := ih
    unfold f_X1_countLeft_42 at h
    refine n_iload_n (i := 2) dX1_countLeft_42 rfl rfl ?_
    refine n_if_lt 162 dX1_countLeft_43 (by decide) (fun c4 => ?_) (fun c4 => ?_)
    · have h := yb_ifp c4 h
      cases h
      exact n_vret dX1_countLeft_162 rfl (Nat.le_refl _) (Nat.le_refl _) ⟨rfl, rfl⟩
    · have h := yb_ifn c4 h
      refine n_aload_n (i := 0) dX1_countLeft_46 rfl rfl ?_
      refine p_getr fl_X1_15 (sh_128 _ _) rfl (rR_128_8 _ _) dX1_countLeft_47 ?_
      refine n_iload_n (i := 2) dX1_countLeft_50 rfl rfl ?_
      obtain ⟨v5, hv5, h⟩ := yb_bind h
      refine p_iald hv5 (sh_130 _ _) dX1_countLeft_51 ?_
      refine n_istore_n (i := 3) (vs' := [some (.ref (yb_ad G 128)), some (.int x1), some (.int x2), some (.int v5)]) dX1_countLeft_52 rfl (Nat.le_of_ble_eq_true rfl) rfl rfl ?_
      refine n_iload_n (i := 1) dX1_countLeft_53 rfl rfl ?_
      refine n_iconst (1 : Int32) dX1_countLeft_54 ic_1 ?_
      refine n_iload_n (i := 3) dX1_countLeft_55 rfl rfl ?_
      refine n_ishl dX1_countLeft_56 ?_
      refine n_iconst (-1 : Int32) dX1_countLeft_57 ic_m1 ?_
      refine n_ixor dX1_countLeft_58 ?_
      refine n_iand dX1_countLeft_59 ?_
      refine n_istore_n (i := 1) (vs' := [some (.ref (yb_ad G 128)), some (.int (x1 &&& (((1 : Int32) <<< (v5 &&& 31)) ^^^ (-1 : Int32)))), some (.int x2), some (.int v5)]) dX1_countLeft_60 rfl (Nat.le_of_ble_eq_true rfl) rfl rfl ?_
      refine n_aload_n (i := 0) dX1_countLeft_61 rfl rfl ?_
      refine p_getr fl_X1_27 (sh_128 _ _) rfl (rR_128_12 _ _) dX1_countLeft_62 ?_
      refine n_iload_n (i := 2) dX1_countLeft_65 rfl rfl ?_
      refine n_aload_n (i := 0) dX1_countLeft_66 rfl rfl ?_
      refine p_getr fl_X1_27 (sh_128 _ _) rfl (rR_128_12 _ _) dX1_countLeft_67 ?_
      refine n_iload_n (i := 2) dX1_countLeft_70 rfl rfl ?_
      refine n_iconst (1 : Int32) dX1_countLeft_71 ic_1 ?_
      refine n_iadd dX1_countLeft_72 ?_
      obtain ⟨v6, hv6, h⟩ := yb_bind h
      refine p_iald hv6 (sh_134 _ _) dX1_countLeft_73 ?_
      refine n_aload_n (i := 0) dX1_countLeft_74 rfl rfl ?_
      refine p_getr fl_X1_36 (sh_128 _ _) rfl (rR_128_0 _ _) dX1_countLeft_75 ?_
      refine p_getr fl_X1_40 (sh_1 _ _) rfl (rR_1_2 _ _) dX1_countLeft_78 ?_
      refine p_getr fl_X1_99 (sh_21 _ _) rfl (rR_21_1 _ _) dX1_countLeft_81 ?_
      refine n_iload_n (i := 3) dX1_countLeft_84 rfl rfl ?_
      obtain ⟨v7, hv7, h⟩ := yb_bind h
      refine p_iald hv7 (sh_22 _ _) dX1_countLeft_85 ?_
      refine n_iadd dX1_countLeft_86 ?_
      obtain ⟨s8, hs8, h⟩ := yb_bind h
      refine p_iast hs8 (sh_134 _ _) dX1_countLeft_87 ?_
      refine n_aload_n (i := 0) dX1_countLeft_88 rfl rfl ?_
      refine p_getr fl_X1_30 (sh_128 _ _) rfl (rR_128_13 _ _) dX1_countLeft_89 ?_
      refine n_iload_n (i := 2) dX1_countLeft_92 rfl rfl ?_
      refine n_aload_n (i := 0) dX1_countLeft_93 rfl rfl ?_
      refine p_getr fl_X1_30 (sh_128 _ _) rfl (rR_128_13 _ _) dX1_countLeft_94 ?_
      refine n_iload_n (i := 2) dX1_countLeft_97 rfl rfl ?_
      refine n_iconst (1 : Int32) dX1_countLeft_98 ic_1 ?_
      refine n_iadd dX1_countLeft_99 ?_
      obtain ⟨v9, hv9, h⟩ := yb_bind h
      refine p_iald hv9 (sh_135 _ _) dX1_countLeft_100 ?_
      refine n_aload_n (i := 0) dX1_countLeft_101 rfl rfl ?_
      refine p_getr fl_X1_36 (sh_128 _ _) rfl (rR_128_0 _ _) dX1_countLeft_102 ?_
      refine p_getr fl_X1_102 (sh_1 _ _) rfl (rR_1_3 _ _) dX1_countLeft_105 ?_
      refine p_getr fl_X1_106 (sh_41 _ _) rfl (rR_41_13 _ _) dX1_countLeft_108 ?_
      refine n_iload_n (i := 3) dX1_countLeft_111 rfl rfl ?_
      obtain ⟨v10, hv10, h⟩ := yb_bind h
      refine p_iald hv10 (sh_53 _ _) dX1_countLeft_112 ?_
      refine n_iload_n (i := 1) dX1_countLeft_113 rfl rfl ?_
      refine n_iand dX1_countLeft_114 ?_
      obtain ⟨q11, hq11, h⟩ := yb_bind h
      refine p_callSi (As := [.int (v10 &&& (x1 &&& (((1 : Int32) <<< (v5 &&& 31)) ^^^ (-1 : Int32))))]) (t_J6_bitCount_0f7a4 hq11) cs_X1_74 rfl rfl (Nat.le_of_ble_eq_true rfl) dX1_countLeft_115 (yb_rok (Nat.le_of_ble_eq_true rfl) (by decide)) ⟨rfl, rfl⟩ ⟨Nat.le_refl _, Nat.le_refl _⟩ (fun k12 => ?_)
      refine n_iadd dX1_countLeft_118 ?_
      obtain ⟨s13, hs13, h⟩ := yb_bind h
      refine p_iast hs13 (sh_135 _ _) dX1_countLeft_119 ?_
      refine n_aload_n (i := 0) dX1_countLeft_120 rfl rfl ?_
      refine p_getr fl_X1_33 (sh_128 _ _) rfl (rR_128_14 _ _) dX1_countLeft_121 ?_
      refine n_iload_n (i := 2) dX1_countLeft_124 rfl rfl ?_
      refine n_aload_n (i := 0) dX1_countLeft_125 rfl rfl ?_
      refine p_getr fl_X1_33 (sh_128 _ _) rfl (rR_128_14 _ _) dX1_countLeft_126 ?_
      refine n_iload_n (i := 2) dX1_countLeft_129 rfl rfl ?_
      refine n_iconst (1 : Int32) dX1_countLeft_130 ic_1 ?_
      refine n_iadd dX1_countLeft_131 ?_
      obtain ⟨v14, hv14, h⟩ := yb_bind h
      refine p_iald hv14 (sh_136 _ _) dX1_countLeft_132 ?_
      refine n_aload_n (i := 0) dX1_countLeft_133 rfl rfl ?_
      refine p_getr fl_X1_36 (sh_128 _ _) rfl (rR_128_0 _ _) dX1_countLeft_134 ?_
      refine p_getr fl_X1_40 (sh_1 _ _) rfl (rR_1_2 _ _) dX1_countLeft_137 ?_
      refine p_getr fl_X1_111 (sh_21 _ _) rfl (rR_21_12 _ _) dX1_countLeft_140 ?_
      refine n_iload_n (i := 3) dX1_countLeft_143 rfl rfl ?_
      obtain ⟨v15, hv15, h⟩ := yb_bind h
      refine p_iald hv15 (sh_33 _ _) dX1_countLeft_144 ?_
      refine n_iconst (-1 : Int32) dX1_countLeft_145 ic_m1 ?_
      refine n_icmp_ne 153 dX1_countLeft_146 (by decide) (fun c16 => ?_) (fun c16 => ?_)
      · have h := yb_ifn c16 h
        refine n_iconst (1 : Int32) dX1_countLeft_153 ic_1 ?_
        exact p_jump (tj_X1_countLeft_154 hrc42 h) (And.intro rfl (And.intro rfl (And.intro rfl trivial)))
      · have h := yb_ifp c16 h
        refine n_iconst (0 : Int32) dX1_countLeft_149 ic_0 ?_
        refine n_goto 154 dX1_countLeft_150 (by decide) ?_
        exact p_jump (tj_X1_countLeft_154 hrc42 h) (And.intro rfl (And.intro rfl (And.intro rfl trivial)))
set_option maxHeartbeats 4000000 in
set_option maxRecDepth 20000 in
theorem tl_X1_countLeft_42 {G : yb_G} {X : List (FieldType × Nat)} {out : yb_S} {x1 : Int32} {x2 : Int32} {s : yb_S} (h : l_X1_countLeft_42 yb_N x1 x2 s = some out) : Rn G RX1 cX1_countLeft 4 none false (yb_rm 2) (yb_qv X out) 0 0 42 [some (.ref (yb_ad G 128)), some (.int x1), some (.int x2), none] [] (yb_mk s X) := t_l_X1_countLeft_42 _ _ _ _ h
set_option maxHeartbeats 4000000 in
set_option maxRecDepth 20000 in
theorem t_X1_countLeft {G : yb_G} {X : List (FieldType × Nat)} {s : yb_S} {out : yb_S} (h : f_X1_countLeft s = some out) : Ct G yX1_countLeft cX1_countLeft 4 none (yb_rm 2) [.ref (yb_ad G 128)] (yb_mk s X) (yb_qv X out) := by
  refine Ct.of (own := RX1) (ini := false) (vs := [some (.ref (yb_ad G 128)), none, none, none]) ⟨rfl, by decide +kernel⟩ (fun h => by cases h) (Nat.le_of_ble_eq_true rfl) rfl ?_
  unfold f_X1_countLeft at h
  refine n_aload_n (i := 0) dX1_countLeft_0 rfl rfl ?_
  refine p_getr fl_X1_27 (sh_128 _ _) rfl (rR_128_12 _ _) dX1_countLeft_1 ?_
  refine n_aload_n (i := 0) dX1_countLeft_4 rfl rfl ?_
  refine p_geti fl_X1_56 (sh_128 _ _) rfl dX1_countLeft_5 ?_
  refine n_iconst (0 : Int32) dX1_countLeft_8 ic_0 ?_
  obtain ⟨s1, hs1, h⟩ := yb_bind h
  refine p_iast hs1 (sh_134 _ _) dX1_countLeft_9 ?_
  refine n_aload_n (i := 0) dX1_countLeft_10 rfl rfl ?_
  refine p_getr fl_X1_30 (sh_128 _ _) rfl (rR_128_13 _ _) dX1_countLeft_11 ?_
  refine n_aload_n (i := 0) dX1_countLeft_14 rfl rfl ?_
  refine p_geti fl_X1_56 (sh_128 _ _) rfl dX1_countLeft_15 ?_
  refine n_iconst (0 : Int32) dX1_countLeft_18 ic_0 ?_
  obtain ⟨s2, hs2, h⟩ := yb_bind h
  refine p_iast hs2 (sh_135 _ _) dX1_countLeft_19 ?_
  refine n_aload_n (i := 0) dX1_countLeft_20 rfl rfl ?_
  refine p_getr fl_X1_33 (sh_128 _ _) rfl (rR_128_14 _ _) dX1_countLeft_21 ?_
  refine n_aload_n (i := 0) dX1_countLeft_24 rfl rfl ?_
  refine p_geti fl_X1_56 (sh_128 _ _) rfl dX1_countLeft_25 ?_
  refine n_iconst (0 : Int32) dX1_countLeft_28 ic_0 ?_
  obtain ⟨s3, hs3, h⟩ := yb_bind h
  refine p_iast hs3 (sh_136 _ _) dX1_countLeft_29 ?_
  refine n_aload_n (i := 0) dX1_countLeft_30 rfl rfl ?_
  refine p_geti fl_X1_67 (sh_128 _ _) rfl dX1_countLeft_31 ?_
  refine n_istore_n (i := 1) (vs' := [some (.ref (yb_ad G 128)), some (.int (s3.1 128 6)), none, none]) dX1_countLeft_34 rfl (Nat.le_of_ble_eq_true rfl) rfl rfl ?_
  refine n_aload_n (i := 0) dX1_countLeft_35 rfl rfl ?_
  refine p_geti fl_X1_56 (sh_128 _ _) rfl dX1_countLeft_36 ?_
  refine n_iconst (1 : Int32) dX1_countLeft_39 ic_1 ?_
  refine n_isub dX1_countLeft_40 ?_
  refine n_istore_n (i := 2) (vs' := [some (.ref (yb_ad G 128)), some (.int (s3.1 128 6)), some (.int ((s3.1 128 1) - (1 : Int32))), none]) dX1_countLeft_41 rfl (Nat.le_of_ble_eq_true rfl) rfl rfl ?_
  exact p_jump (tl_X1_countLeft_42 h) (And.intro rfl (And.intro rfl (And.intro rfl trivial)))
set_option maxHeartbeats 4000000 in
set_option maxRecDepth 20000 in
theorem t_X1_isBetter {G : yb_G} {X : List (FieldType × Nat)} {a1 : Int32} {a2 : Int32} {a3 : Int32} {s : yb_S} {out : Int32} (h : f_X1_isBetter a1 a2 a3 s = some out) : Ct G yX1_isBetter cX1_isBetter 4 (Option.some .boolean) (yb_rm 1) [.ref (yb_ad G 128), .int a1, .int a2, .int a3] (yb_mk s X) (yb_qi X s out) := by
  refine Ct.of (own := RX1) (ini := false) (vs := [some (.ref (yb_ad G 128)), some (.int a1), some (.int a2), some (.int a3)]) ⟨rfl, by decide +kernel⟩ (fun h => by cases h) (Nat.le_of_ble_eq_true rfl) rfl ?_
  unfold f_X1_isBetter at h
  refine n_iload_n (i := 1) dX1_isBetter_0 rfl rfl ?_
  refine n_aload_n (i := 0) dX1_isBetter_1 rfl rfl ?_
  refine p_geti fl_X1_88 (sh_128 _ _) rfl dX1_isBetter_2 ?_
  refine n_icmp_eq 22 dX1_isBetter_5 (by decide) (fun c1 => ?_) (fun c1 => ?_)
  · have h := yb_ifp c1 h
    refine n_iload_n (i := 2) dX1_isBetter_22 rfl rfl ?_
    refine n_aload_n (i := 0) dX1_isBetter_23 rfl rfl ?_
    refine p_geti fl_X1_145 (sh_128 _ _) rfl dX1_isBetter_24 ?_
    refine n_icmp_eq 44 dX1_isBetter_27 (by decide) (fun c2 => ?_) (fun c2 => ?_)
    · have h := yb_ifp c2 h
      refine n_iload_n (i := 3) dX1_isBetter_44 rfl rfl ?_
      refine n_aload_n (i := 0) dX1_isBetter_45 rfl rfl ?_
      refine p_geti fl_X1_148 (sh_128 _ _) rfl dX1_isBetter_46 ?_
      refine n_icmp_le 56 dX1_isBetter_49 (by decide) (fun c3 => ?_) (fun c3 => ?_)
      · have h := yb_ifp c3 h
        refine n_iconst (0 : Int32) dX1_isBetter_56 ic_0 ?_
        cases h
        exact n_iret dX1_isBetter_57 rfl (by decide) (Nat.le_refl _) (Nat.le_refl _) ⟨rfl, rfl⟩
      · have h := yb_ifn c3 h
        refine n_iconst (1 : Int32) dX1_isBetter_52 ic_1 ?_
        refine n_goto 57 dX1_isBetter_53 (by decide) ?_
        cases h
        exact n_iret dX1_isBetter_57 rfl (by decide) (Nat.le_refl _) (Nat.le_refl _) ⟨rfl, rfl⟩
    · have h := yb_ifn c2 h
      refine n_iload_n (i := 2) dX1_isBetter_30 rfl rfl ?_
      refine n_aload_n (i := 0) dX1_isBetter_31 rfl rfl ?_
      refine p_geti fl_X1_145 (sh_128 _ _) rfl dX1_isBetter_32 ?_
      refine n_icmp_le 42 dX1_isBetter_35 (by decide) (fun c4 => ?_) (fun c4 => ?_)
      · have h := yb_ifp c4 h
        refine n_iconst (0 : Int32) dX1_isBetter_42 ic_0 ?_
        cases h
        exact n_iret dX1_isBetter_43 rfl (by decide) (Nat.le_refl _) (Nat.le_refl _) ⟨rfl, rfl⟩
      · have h := yb_ifn c4 h
        refine n_iconst (1 : Int32) dX1_isBetter_38 ic_1 ?_
        refine n_goto 43 dX1_isBetter_39 (by decide) ?_
        cases h
        exact n_iret dX1_isBetter_43 rfl (by decide) (Nat.le_refl _) (Nat.le_refl _) ⟨rfl, rfl⟩
  · have h := yb_ifn c1 h
    refine n_iload_n (i := 1) dX1_isBetter_8 rfl rfl ?_
    refine n_aload_n (i := 0) dX1_isBetter_9 rfl rfl ?_
    refine p_geti fl_X1_88 (sh_128 _ _) rfl dX1_isBetter_10 ?_
    refine n_icmp_le 20 dX1_isBetter_13 (by decide) (fun c5 => ?_) (fun c5 => ?_)
    · have h := yb_ifp c5 h
      refine n_iconst (0 : Int32) dX1_isBetter_20 ic_0 ?_
      cases h
      exact n_iret dX1_isBetter_21 rfl (by decide) (Nat.le_refl _) (Nat.le_refl _) ⟨rfl, rfl⟩
    · have h := yb_ifn c5 h
      refine n_iconst (1 : Int32) dX1_isBetter_16 ic_1 ?_
      refine n_goto 21 dX1_isBetter_17 (by decide) ?_
      cases h
      exact n_iret dX1_isBetter_21 rfl (by decide) (Nat.le_refl _) (Nat.le_refl _) ⟨rfl, rfl⟩
set_option maxHeartbeats 4000000 in
set_option maxRecDepth 20000 in
theorem t_l_X1_keepWay_18 {G : yb_G} {X : List (FieldType × Nat)} {out : yb_S} : ∀ (k0 : Nat) (x4 : Int32) (s : yb_S), l_X1_keepWay_18 k0 x4 s = some out → Rn G RX1 cX1_keepWay 5 none false (yb_rm 1) (yb_qv X out) 0 0 18 [some (.ref (yb_ad G 128)), none, none, none, some (.int x4)] [] (yb_mk s X) := by
  intro k0
  induction k0 with
  | zero => intro x4 s h; cases h
  | succ k0 ih =>
    intro x4 s h
    have h : f_X1_keepWay_18 (fun x4 s => l_X1_keepWay_18 k0 x4 s) x4 s = some out := h
    have hrc18 := ih
    unfold f_X1_keepWay_18 at h
    refine n_iload dX1_keepWay_18 rfl ?_
    refine n_aload_n (i := 0) dX1_keepWay_20 rfl rfl ?_
    refine p_geti fl_X1_56 (sh_128 _ _) rfl dX1_keepWay_21 ?_
    refine n_icmp_ge 47 dX1_keepWay_24 (by decide) (fun c4 => ?_) (fun c4 => ?_)
    · have h := yb_ifp c4 h
      cases h
      exact n_vret dX1_keepWay_47 rfl (Nat.le_refl _) (Nat.le_refl _) ⟨rfl, rfl⟩
    · have h := yb_ifn c4 h
      refine n_aload_n (i := 0) dX1_keepWay_27 rfl rfl ?_
      refine p_getr fl_X1_9 (sh_128 _ _) rfl (rR_128_3 _ _) dX1_keepWay_28 ?_
      refine n_iload dX1_keepWay_31 rfl ?_
      refine n_aload_n (i := 0) dX1_keepWay_33 rfl rfl ?_
      refine p_getr fl_X1_24 (sh_128 _ _) rfl (rR_128_11 _ _) dX1_keepWay_34 ?_
      refine n_iload dX1_keepWay_37 rfl ?_
      obtain ⟨v5, hv5, h⟩ := yb_bind h
      refine p_iald hv5 (sh_133 _ _) dX1_keepWay_39 ?_
      obtain ⟨s6, hs6, h⟩ := yb_bind h
      refine p_iast hs6 (sh_129 _ _) dX1_keepWay_40 ?_
      refine n_iinc (vs' := [some (.ref (yb_ad G 128)), none, none, none, some (.int (x4 + (1 : Int32)))]) dX1_keepWay_41 rfl (ii_1 _) (Nat.le_of_ble_eq_true rfl) rfl rfl ?_
      refine n_goto 18 dX1_keepWay_44 (by decide) ?_
      exact p_jump (hrc18 (x4 + (1 : Int32)) s6 h) (And.intro rfl (And.intro rfl trivial))
set_option maxHeartbeats 4000000 in
set_option maxRecDepth 20000 in
theorem tl_X1_keepWay_18 {G : yb_G} {X : List (FieldType × Nat)} {out : yb_S} {x4 : Int32} {s : yb_S} (h : l_X1_keepWay_18 yb_N x4 s = some out) : Rn G RX1 cX1_keepWay 5 none false (yb_rm 1) (yb_qv X out) 0 0 18 [some (.ref (yb_ad G 128)), none, none, none, some (.int x4)] [] (yb_mk s X) := t_l_X1_keepWay_18 _ _ _ h
set_option maxHeartbeats 4000000 in
set_option maxRecDepth 20000 in
theorem t_X1_keepWay {G : yb_G} {X : List (FieldType × Nat)} {a1 : Int32} {a2 : Int32} {a3 : Int32} {s : yb_S} {out : yb_S} (h : f_X1_keepWay a1 a2 a3 s = some out) : Ct G yX1_keepWay cX1_keepWay 5 none (yb_rm 1) [.ref (yb_ad G 128), .int a1, .int a2, .int a3] (yb_mk s X) (yb_qv X out) := by
  refine Ct.of (own := RX1) (ini := false) (vs := [some (.ref (yb_ad G 128)), some (.int a1), some (.int a2), some (.int a3), none]) ⟨rfl, by decide +kernel⟩ (fun h => by cases h) (Nat.le_of_ble_eq_true rfl) rfl ?_
  unfold f_X1_keepWay at h
  refine n_aload_n (i := 0) dX1_keepWay_0 rfl rfl ?_
  refine n_iload_n (i := 1) dX1_keepWay_1 rfl rfl ?_
  obtain ⟨s1, hs1, h⟩ := yb_bind h
  refine p_puti hs1 fp_X1_88 (sh_128 _ _) rfl rfl rfl dX1_keepWay_2 ?_
  refine n_aload_n (i := 0) dX1_keepWay_5 rfl rfl ?_
  refine n_iload_n (i := 2) dX1_keepWay_6 rfl rfl ?_
  obtain ⟨s2, hs2, h⟩ := yb_bind h
  refine p_puti hs2 fp_X1_145 (sh_128 _ _) rfl rfl rfl dX1_keepWay_7 ?_
  refine n_aload_n (i := 0) dX1_keepWay_10 rfl rfl ?_
  refine n_iload_n (i := 3) dX1_keepWay_11 rfl rfl ?_
  obtain ⟨s3, hs3, h⟩ := yb_bind h
  refine p_puti hs3 fp_X1_148 (sh_128 _ _) rfl rfl rfl dX1_keepWay_12 ?_
  refine n_iconst (0 : Int32) dX1_keepWay_15 ic_0 ?_
  refine n_istore (i := 4) (vs' := [some (.ref (yb_ad G 128)), some (.int a1), some (.int a2), some (.int a3), some (.int (0 : Int32))]) dX1_keepWay_16 (Nat.le_of_ble_eq_true rfl) rfl rfl ?_
  exact p_jump (tl_X1_keepWay_18 h) (And.intro rfl (And.intro rfl trivial))
set_option maxHeartbeats 4000000 in
set_option maxRecDepth 20000 in
theorem tj_X1_tryFrom_101 {G : yb_G} {X : List (FieldType × Nat)} {r_X1_tryFrom : (Int32 → Int32 → Int32 → Int32 → yb_S → Option yb_S)} {r_X1_tryHome : (Int32 → Int32 → Int32 → Int32 → Int32 → yb_S → Option yb_S)} {n : Nat} {rc53 : (Int32 → yb_S → Option yb_S)} {x1 : Int32} {x2 : Int32} {x3 : Int32} {x4 : Int32} {x5 : Int32} {s : yb_S} {out : yb_S} (H_X1_tryFrom : ∀ (a1 : Int32) (a2 : Int32) (a3 : Int32) (a4 : Int32) (s : yb_S) (out : yb_S), r_X1_tryFrom a1 a2 a3 a4 s = some out → Ct G yX1_tryFrom cX1_tryFrom 6 none (yb_rm (6 + n)) [.ref (yb_ad G 128), .int a1, .int a2, .int a3, .int a4] (yb_mk s X) (yb_qv X out)) (H_X1_tryHome : ∀ (a1 : Int32) (a2 : Int32) (a3 : Int32) (a4 : Int32) (a5 : Int32) (s : yb_S) (out : yb_S), r_X1_tryHome a1 a2 a3 a4 a5 s = some out → Ct G yX1_tryHome cX1_tryHome 9 none (yb_rm (6 + n)) [.ref (yb_ad G 128), .int a1, .int a2, .int a3, .int a4, .int a5] (yb_mk s X) (yb_qv X out)) (hrc53 : ∀ (x5' : Int32) (s' : yb_S), rc53 x5' s' = some out → Rn G RX1 cX1_tryFrom 6 none false (yb_rm (7 + n)) (yb_qv X out) 0 0 53 [some (.ref (yb_ad G 128)), some (.int x1), some (.int x2), some (.int x3), some (.int x4), some (.int x5')] [] (yb_mk s' X)) (h : j_X1_tryFrom_101 r_X1_tryFrom r_X1_tryHome rc53 x1 x2 x3 x4 x5 s = some out) : Rn G RX1 cX1_tryFrom 6 none false (yb_rm (7 + n)) (yb_qv X out) 0 0 101 [some (.ref (yb_ad G 128)), some (.int x1), some (.int x2), some (.int x3), some (.int x4), some (.int x5)] [] (yb_mk s X) := by
  unfold j_X1_tryFrom_101 at h
  refine n_iinc (vs' := [some (.ref (yb_ad G 128)), some (.int x1), some (.int x2), some (.int x3), some (.int x4), some (.int (x5 + (1 : Int32)))]) dX1_tryFrom_101 rfl (ii_1 _) (Nat.le_of_ble_eq_true rfl) rfl rfl ?_
  refine n_goto 53 dX1_tryFrom_104 (by decide) ?_
  exact p_jump (hrc53 (x5 + (1 : Int32)) s h) (And.intro rfl (And.intro rfl (And.intro rfl (And.intro rfl (And.intro rfl (And.intro rfl trivial))))))
set_option maxHeartbeats 4000000 in
set_option maxRecDepth 20000 in
theorem t_l_X1_tryFrom_53 {G : yb_G} {X : List (FieldType × Nat)} {r_X1_tryFrom : (Int32 → Int32 → Int32 → Int32 → yb_S → Option yb_S)} {r_X1_tryHome : (Int32 → Int32 → Int32 → Int32 → Int32 → yb_S → Option yb_S)} {n : Nat} {x1 : Int32} {x2 : Int32} {x3 : Int32} {x4 : Int32} {out : yb_S} (H_X1_tryFrom : ∀ (a1 : Int32) (a2 : Int32) (a3 : Int32) (a4 : Int32) (s : yb_S) (out : yb_S), r_X1_tryFrom a1 a2 a3 a4 s = some out → Ct G yX1_tryFrom cX1_tryFrom 6 none (yb_rm (6 + n)) [.ref (yb_ad G 128), .int a1, .int a2, .int a3, .int a4] (yb_mk s X) (yb_qv X out)) (H_X1_tryHome : ∀ (a1 : Int32) (a2 : Int32) (a3 : Int32) (a4 : Int32) (a5 : Int32) (s : yb_S) (out : yb_S), r_X1_tryHome a1 a2 a3 a4 a5 s = some out → Ct G yX1_tryHome cX1_tryHome 9 none (yb_rm (6 + n)) [.ref (yb_ad G 128), .int a1, .int a2, .int a3, .int a4, .int a5] (yb_mk s X) (yb_qv X out)) : ∀ (k0 : Nat) (x5 : Int32) (s : yb_S), l_X1_tryFrom_53 r_X1_tryFrom r_X1_tryHome x1 x2 x3 x4 k0 x5 s = some out → Rn G RX1 cX1_tryFrom 6 none false (yb_rm (7 + n)) (yb_qv X out) 0 0 53 [some (.ref (yb_ad G 128)), some (.int x1), some (.int x2), some (.int x3), some (.int x4), some (.int x5)] [] (yb_mk s X) := by
  intro k0
  induction k0 with
  | zero => intro x5 s h; cases h
  | succ k0 ih =>
    intro x5 s h
    have h : f_X1_tryFrom_53 r_X1_tryFrom r_X1_tryHome (fun x5 s => l_X1_tryFrom_53 r_X1_tryFrom r_X1_tryHome x1 x2 x3 x4 k0 x5 s) x1 x2 x3 x4 x5 s = some out := h
    have hrc53 := ih
    unfold f_X1_tryFrom_53 at h
    refine n_iload dX1_tryFrom_53 rfl ?_
    refine n_aload_n (i := 0) dX1_tryFrom_55 rfl rfl ?_
    refine p_geti fl_X1_65 (sh_128 _ _) rfl dX1_tryFrom_56 ?_
    refine n_icmp_ge 107 dX1_tryFrom_59 (by decide) (fun c8 => ?_) (fun c8 => ?_)
    · have h := yb_ifp c8 h
      refine n_aload_n (i := 0) dX1_tryFrom_107 rfl rfl ?_
      refine p_getr fl_X1_24 (sh_128 _ _) rfl (rR_128_11 _ _) dX1_tryFrom_108 ?_
      refine n_iload_n (i := 1) dX1_tryFrom_111 rfl rfl ?_
      refine n_iconst (-1 : Int32) dX1_tryFrom_112 ic_m1 ?_
      obtain ⟨s9, hs9, h⟩ := yb_bind h
      refine p_iast hs9 (sh_133 _ _) dX1_tryFrom_113 ?_
      refine n_aload_n (i := 0) dX1_tryFrom_114 rfl rfl ?_
      refine n_iload_n (i := 1) dX1_tryFrom_115 rfl rfl ?_
      refine n_iconst (1 : Int32) dX1_tryFrom_116 ic_1 ?_
      refine n_iadd dX1_tryFrom_117 ?_
      refine n_iload_n (i := 2) dX1_tryFrom_118 rfl rfl ?_
      refine n_iload_n (i := 3) dX1_tryFrom_119 rfl rfl ?_
      refine n_iload dX1_tryFrom_120 rfl ?_
      obtain ⟨q10, hq10, h⟩ := yb_bind h
      refine p_callVv (As := [.int (x1 + (1 : Int32)), .int x2, .int x3, .int x4]) (H_X1_tryFrom (x1 + (1 : Int32)) x2 x3 x4 _ _ hq10) cv_X1_91 (sh_128 _ _) rfl rfl (Nat.le_of_ble_eq_true rfl) dX1_tryFrom_122 (yb_rok (by omega) (by decide)) ⟨rfl, rfl⟩ ⟨Nat.le_refl _, Nat.le_refl _⟩ (fun k11 => ?_)
      cases h
      exact n_vret dX1_tryFrom_125 rfl (Nat.le_refl _) (Nat.le_refl _) ⟨rfl, rfl⟩
    · have h := yb_ifn c8 h
      refine n_aload_n (i := 0) dX1_tryFrom_62 rfl rfl ?_
      refine p_getr fl_X1_36 (sh_128 _ _) rfl (rR_128_0 _ _) dX1_tryFrom_63 ?_
      refine n_aload_n (i := 0) dX1_tryFrom_66 rfl rfl ?_
      refine p_getr fl_X1_15 (sh_128 _ _) rfl (rR_128_8 _ _) dX1_tryFrom_67 ?_
      refine n_iload_n (i := 1) dX1_tryFrom_70 rfl rfl ?_
      obtain ⟨v12, hv12, h⟩ := yb_bind h
      refine p_iald hv12 (sh_130 _ _) dX1_tryFrom_71 ?_
      refine n_aload_n (i := 0) dX1_tryFrom_72 rfl rfl ?_
      refine p_getr fl_X1_18 (sh_128 _ _) rfl (rR_128_9 _ _) dX1_tryFrom_73 ?_
      refine n_iload dX1_tryFrom_76 rfl ?_
      obtain ⟨v13, hv13, h⟩ := yb_bind h
      refine p_iald hv13 (sh_131 _ _) dX1_tryFrom_78 ?_
      obtain ⟨q14, hq14, h⟩ := yb_bind h
      refine p_callVi (As := [.int v12, .int v13]) (t_X8_barOf hq14) cv_X1_122 (sh_1 _ _) rfl rfl (Nat.le_of_ble_eq_true rfl) dX1_tryFrom_79 (yb_rok (by omega) (by decide)) ⟨rfl, rfl⟩ ⟨Nat.le_refl _, Nat.le_refl _⟩ (fun k15 => ?_)
      refine n_if_ne 101 dX1_tryFrom_82 (by decide) (fun c16 => ?_) (fun c16 => ?_)
      · have h := yb_ifn c16 h
        exact p_jump (tj_X1_tryFrom_101 H_X1_tryFrom H_X1_tryHome hrc53 h) (And.intro rfl (And.intro rfl (And.intro rfl (And.intro rfl (And.intro rfl (And.intro rfl trivial))))))
      · have h := yb_ifp c16 h
        refine n_aload_n (i := 0) dX1_tryFrom_85 rfl rfl ?_
        refine n_iload_n (i := 1) dX1_tryFrom_86 rfl rfl ?_
        refine n_aload_n (i := 0) dX1_tryFrom_87 rfl rfl ?_
        refine p_getr fl_X1_18 (sh_128 _ _) rfl (rR_128_9 _ _) dX1_tryFrom_88 ?_
        refine n_iload dX1_tryFrom_91 rfl ?_
        obtain ⟨v17, hv17, h⟩ := yb_bind h
        refine p_iald hv17 (sh_131 _ _) dX1_tryFrom_93 ?_
        refine n_iload_n (i := 2) dX1_tryFrom_94 rfl rfl ?_
        refine n_iload_n (i := 3) dX1_tryFrom_95 rfl rfl ?_
        refine n_iload dX1_tryFrom_96 rfl ?_
        obtain ⟨q18, hq18, h⟩ := yb_bind h
        refine p_callVv (As := [.int x1, .int v17, .int x2, .int x3, .int x4]) (H_X1_tryHome x1 v17 x2 x3 x4 _ _ hq18) cv_X1_126 (sh_128 _ _) rfl rfl (Nat.le_of_ble_eq_true rfl) dX1_tryFrom_98 (yb_rok (by omega) (by decide)) ⟨rfl, rfl⟩ ⟨Nat.le_refl _, Nat.le_refl _⟩ (fun k19 => ?_)
        exact p_jump (tj_X1_tryFrom_101 H_X1_tryFrom H_X1_tryHome hrc53 h) (And.intro rfl (And.intro rfl (And.intro rfl (And.intro rfl (And.intro rfl (And.intro rfl trivial))))))
set_option maxHeartbeats 4000000 in
set_option maxRecDepth 20000 in
theorem tl_X1_tryFrom_53 {G : yb_G} {X : List (FieldType × Nat)} {r_X1_tryFrom : (Int32 → Int32 → Int32 → Int32 → yb_S → Option yb_S)} {r_X1_tryHome : (Int32 → Int32 → Int32 → Int32 → Int32 → yb_S → Option yb_S)} {n : Nat} {x1 : Int32} {x2 : Int32} {x3 : Int32} {x4 : Int32} {out : yb_S} (H_X1_tryFrom : ∀ (a1 : Int32) (a2 : Int32) (a3 : Int32) (a4 : Int32) (s : yb_S) (out : yb_S), r_X1_tryFrom a1 a2 a3 a4 s = some out → Ct G yX1_tryFrom cX1_tryFrom 6 none (yb_rm (6 + n)) [.ref (yb_ad G 128), .int a1, .int a2, .int a3, .int a4] (yb_mk s X) (yb_qv X out)) (H_X1_tryHome : ∀ (a1 : Int32) (a2 : Int32) (a3 : Int32) (a4 : Int32) (a5 : Int32) (s : yb_S) (out : yb_S), r_X1_tryHome a1 a2 a3 a4 a5 s = some out → Ct G yX1_tryHome cX1_tryHome 9 none (yb_rm (6 + n)) [.ref (yb_ad G 128), .int a1, .int a2, .int a3, .int a4, .int a5] (yb_mk s X) (yb_qv X out)) {x5 : Int32} {s : yb_S} (h : l_X1_tryFrom_53 r_X1_tryFrom r_X1_tryHome x1 x2 x3 x4 yb_N x5 s = some out) : Rn G RX1 cX1_tryFrom 6 none false (yb_rm (7 + n)) (yb_qv X out) 0 0 53 [some (.ref (yb_ad G 128)), some (.int x1), some (.int x2), some (.int x3), some (.int x4), some (.int x5)] [] (yb_mk s X) := t_l_X1_tryFrom_53 H_X1_tryFrom H_X1_tryHome _ _ _ h
set_option maxHeartbeats 4000000 in
set_option maxRecDepth 20000 in
theorem t_X1_tryFrom {G : yb_G} {X : List (FieldType × Nat)} {r_X1_tryFrom : (Int32 → Int32 → Int32 → Int32 → yb_S → Option yb_S)} {r_X1_tryHome : (Int32 → Int32 → Int32 → Int32 → Int32 → yb_S → Option yb_S)} {n : Nat} {a1 : Int32} {a2 : Int32} {a3 : Int32} {a4 : Int32} {s : yb_S} {out : yb_S} (H_X1_tryFrom : ∀ (a1 : Int32) (a2 : Int32) (a3 : Int32) (a4 : Int32) (s : yb_S) (out : yb_S), r_X1_tryFrom a1 a2 a3 a4 s = some out → Ct G yX1_tryFrom cX1_tryFrom 6 none (yb_rm (6 + n)) [.ref (yb_ad G 128), .int a1, .int a2, .int a3, .int a4] (yb_mk s X) (yb_qv X out)) (H_X1_tryHome : ∀ (a1 : Int32) (a2 : Int32) (a3 : Int32) (a4 : Int32) (a5 : Int32) (s : yb_S) (out : yb_S), r_X1_tryHome a1 a2 a3 a4 a5 s = some out → Ct G yX1_tryHome cX1_tryHome 9 none (yb_rm (6 + n)) [.ref (yb_ad G 128), .int a1, .int a2, .int a3, .int a4, .int a5] (yb_mk s X) (yb_qv X out)) (h : f_X1_tryFrom r_X1_tryFrom r_X1_tryHome a1 a2 a3 a4 s = some out) : Ct G yX1_tryFrom cX1_tryFrom 6 none (yb_rm (7 + n)) [.ref (yb_ad G 128), .int a1, .int a2, .int a3, .int a4] (yb_mk s X) (yb_qv X out) := by
  refine Ct.of (own := RX1) (ini := false) (vs := [some (.ref (yb_ad G 128)), some (.int a1), some (.int a2), some (.int a3), some (.int a4), none]) ⟨rfl, by decide +kernel⟩ (fun h => by cases h) (Nat.le_of_ble_eq_true rfl) rfl ?_
  unfold f_X1_tryFrom at h
  refine n_aload_n (i := 0) dX1_tryFrom_0 rfl rfl ?_
  refine n_iload_n (i := 2) dX1_tryFrom_1 rfl rfl ?_
  refine n_aload_n (i := 0) dX1_tryFrom_2 rfl rfl ?_
  refine p_getr fl_X1_27 (sh_128 _ _) rfl (rR_128_12 _ _) dX1_tryFrom_3 ?_
  refine n_iload_n (i := 1) dX1_tryFrom_6 rfl rfl ?_
  obtain ⟨v1, hv1, h⟩ := yb_bind h
  refine p_iald hv1 (sh_134 _ _) dX1_tryFrom_7 ?_
  refine n_iadd dX1_tryFrom_8 ?_
  refine n_iload_n (i := 3) dX1_tryFrom_9 rfl rfl ?_
  refine n_aload_n (i := 0) dX1_tryFrom_10 rfl rfl ?_
  refine p_getr fl_X1_30 (sh_128 _ _) rfl (rR_128_13 _ _) dX1_tryFrom_11 ?_
  refine n_iload_n (i := 1) dX1_tryFrom_14 rfl rfl ?_
  obtain ⟨v2, hv2, h⟩ := yb_bind h
  refine p_iald hv2 (sh_135 _ _) dX1_tryFrom_15 ?_
  refine n_iadd dX1_tryFrom_16 ?_
  refine n_iload dX1_tryFrom_17 rfl ?_
  refine n_aload_n (i := 0) dX1_tryFrom_19 rfl rfl ?_
  refine p_getr fl_X1_33 (sh_128 _ _) rfl (rR_128_14 _ _) dX1_tryFrom_20 ?_
  refine n_iload_n (i := 1) dX1_tryFrom_23 rfl rfl ?_
  obtain ⟨v3, hv3, h⟩ := yb_bind h
  refine p_iald hv3 (sh_136 _ _) dX1_tryFrom_24 ?_
  refine n_iadd dX1_tryFrom_25 ?_
  obtain ⟨q4, hq4, h⟩ := yb_bind h
  refine p_callVi (As := [.int (a2 + v1), .int (a3 + v2), .int (a4 + v3)]) (t_X1_isBetter hq4) cv_X1_114 (sh_128 _ _) rfl rfl (Nat.le_of_ble_eq_true rfl) dX1_tryFrom_26 (yb_rok (by omega) (by decide)) ⟨rfl, rfl⟩ ⟨Nat.le_refl _, Nat.le_refl _⟩ (fun k5 => ?_)
  refine n_if_ne 33 dX1_tryFrom_29 (by decide) (fun c6 => ?_) (fun c6 => ?_)
  · have h := yb_ifn c6 h
    refine n_iload_n (i := 1) dX1_tryFrom_33 rfl rfl ?_
    refine n_aload_n (i := 0) dX1_tryFrom_34 rfl rfl ?_
    refine p_geti fl_X1_56 (sh_128 _ _) rfl dX1_tryFrom_35 ?_
    refine n_icmp_lt 50 dX1_tryFrom_38 (by decide) (fun c7 => ?_) (fun c7 => ?_)
    · have h := yb_ifp c7 h
      refine n_iconst (0 : Int32) dX1_tryFrom_50 ic_0 ?_
      refine n_istore (i := 5) (vs' := [some (.ref (yb_ad G 128)), some (.int a1), some (.int a2), some (.int a3), some (.int a4), some (.int (0 : Int32))]) dX1_tryFrom_51 (Nat.le_of_ble_eq_true rfl) rfl rfl ?_
      exact p_jump (tl_X1_tryFrom_53 H_X1_tryFrom H_X1_tryHome h) (And.intro rfl (And.intro rfl (And.intro rfl (And.intro rfl (And.intro rfl (And.intro rfl trivial))))))
    · have h := yb_ifn c7 h
      refine n_aload_n (i := 0) dX1_tryFrom_41 rfl rfl ?_
      refine n_iload_n (i := 2) dX1_tryFrom_42 rfl rfl ?_
      refine n_iload_n (i := 3) dX1_tryFrom_43 rfl rfl ?_
      refine n_iload dX1_tryFrom_44 rfl ?_
      obtain ⟨q20, hq20, h⟩ := yb_bind h
      refine p_callVv (As := [.int a2, .int a3, .int a4]) (t_X1_keepWay hq20) cv_X1_118 (sh_128 _ _) rfl rfl (Nat.le_of_ble_eq_true rfl) dX1_tryFrom_46 (yb_rok (by omega) (by decide)) ⟨rfl, rfl⟩ ⟨Nat.le_refl _, Nat.le_refl _⟩ (fun k21 => ?_)
      cases h
      exact n_vret dX1_tryFrom_49 rfl (Nat.le_refl _) (Nat.le_refl _) ⟨rfl, rfl⟩
  · have h := yb_ifp c6 h
    cases h
    exact n_vret dX1_tryFrom_32 rfl (Nat.le_refl _) (Nat.le_refl _) ⟨rfl, rfl⟩
set_option maxHeartbeats 4000000 in
set_option maxRecDepth 20000 in
theorem t_X1_tryHome {G : yb_G} {X : List (FieldType × Nat)} {r_X1_tryFrom : (Int32 → Int32 → Int32 → Int32 → yb_S → Option yb_S)} {r_X1_tryHome : (Int32 → Int32 → Int32 → Int32 → Int32 → yb_S → Option yb_S)} {n : Nat} {a1 : Int32} {a2 : Int32} {a3 : Int32} {a4 : Int32} {a5 : Int32} {s : yb_S} {out : yb_S} (H_X1_tryFrom : ∀ (a1 : Int32) (a2 : Int32) (a3 : Int32) (a4 : Int32) (s : yb_S) (out : yb_S), r_X1_tryFrom a1 a2 a3 a4 s = some out → Ct G yX1_tryFrom cX1_tryFrom 6 none (yb_rm (6 + n)) [.ref (yb_ad G 128), .int a1, .int a2, .int a3, .int a4] (yb_mk s X) (yb_qv X out)) (H_X1_tryHome : ∀ (a1 : Int32) (a2 : Int32) (a3 : Int32) (a4 : Int32) (a5 : Int32) (s : yb_S) (out : yb_S), r_X1_tryHome a1 a2 a3 a4 a5 s = some out → Ct G yX1_tryHome cX1_tryHome 9 none (yb_rm (6 + n)) [.ref (yb_ad G 128), .int a1, .int a2, .int a3, .int a4, .int a5] (yb_mk s X) (yb_qv X out)) (h : f_X1_tryHome r_X1_tryFrom r_X1_tryHome a1 a2 a3 a4 a5 s = some out) : Ct G yX1_tryHome cX1_tryHome 9 none (yb_rm (7 + n)) [.ref (yb_ad G 128), .int a1, .int a2, .int a3, .int a4, .int a5] (yb_mk s X) (yb_qv X out) := by
  refine Ct.of (own := RX1) (ini := false) (vs := [some (.ref (yb_ad G 128)), some (.int a1), some (.int a2), some (.int a3), some (.int a4), some (.int a5), none, none, none]) ⟨rfl, by decide +kernel⟩ (fun h => by cases h) (Nat.le_of_ble_eq_true rfl) rfl ?_
  unfold f_X1_tryHome at h
  refine n_aload_n (i := 0) dX1_tryHome_0 rfl rfl ?_
  refine p_getr fl_X1_15 (sh_128 _ _) rfl (rR_128_8 _ _) dX1_tryHome_1 ?_
  refine n_iload_n (i := 1) dX1_tryHome_4 rfl rfl ?_
  obtain ⟨v1, hv1, h⟩ := yb_bind h
  refine p_iald hv1 (sh_130 _ _) dX1_tryHome_5 ?_
  refine n_istore (i := 6) (vs' := [some (.ref (yb_ad G 128)), some (.int a1), some (.int a2), some (.int a3), some (.int a4), some (.int a5), some (.int v1), none, none]) dX1_tryHome_6 (Nat.le_of_ble_eq_true rfl) rfl rfl ?_
  refine n_aload_n (i := 0) dX1_tryHome_8 rfl rfl ?_
  refine p_getr fl_X1_36 (sh_128 _ _) rfl (rR_128_0 _ _) dX1_tryHome_9 ?_
  refine p_getr fl_X1_58 (sh_1 _ _) rfl (rR_1_1 _ _) dX1_tryHome_12 ?_
  refine p_getr fl_X1_130 (sh_13 _ _) rfl (rR_13_1 _ _) dX1_tryHome_15 ?_
  refine n_iload_n (i := 2) dX1_tryHome_18 rfl rfl ?_
  obtain ⟨v2, hv2, h⟩ := yb_bind h
  refine p_iald hv2 (sh_14 _ _) dX1_tryHome_19 ?_
  refine n_istore (i := 7) (vs' := [some (.ref (yb_ad G 128)), some (.int a1), some (.int a2), some (.int a3), some (.int a4), some (.int a5), some (.int v1), some (.int v2), none]) dX1_tryHome_20 (Nat.le_of_ble_eq_true rfl) rfl rfl ?_
  refine n_aload_n (i := 0) dX1_tryHome_22 rfl rfl ?_
  refine p_getr fl_X1_36 (sh_128 _ _) rfl (rR_128_0 _ _) dX1_tryHome_23 ?_
  refine p_getr fl_X1_102 (sh_1 _ _) rfl (rR_1_3 _ _) dX1_tryHome_26 ?_
  refine p_getr fl_X1_106 (sh_41 _ _) rfl (rR_41_13 _ _) dX1_tryHome_29 ?_
  refine n_iload dX1_tryHome_32 rfl ?_
  obtain ⟨v3, hv3, h⟩ := yb_bind h
  refine p_iald hv3 (sh_53 _ _) dX1_tryHome_34 ?_
  refine n_aload_n (i := 0) dX1_tryHome_35 rfl rfl ?_
  refine p_geti fl_X1_67 (sh_128 _ _) rfl dX1_tryHome_36 ?_
  refine n_iand dX1_tryHome_39 ?_
  refine n_aload_n (i := 0) dX1_tryHome_40 rfl rfl ?_
  refine p_getr fl_X1_36 (sh_128 _ _) rfl (rR_128_0 _ _) dX1_tryHome_41 ?_
  refine p_getr fl_X1_133 (sh_1 _ _) rfl (rR_1_0 _ _) dX1_tryHome_44 ?_
  refine p_getr fl_X1_137 (sh_2 _ _) rfl (rR_2_9 _ _) dX1_tryHome_47 ?_
  refine n_iload dX1_tryHome_50 rfl ?_
  obtain ⟨v4, hv4, h⟩ := yb_bind h
  refine p_iald hv4 (sh_11 _ _) dX1_tryHome_52 ?_
  refine n_iand dX1_tryHome_53 ?_
  obtain ⟨q5, hq5, h⟩ := yb_bind h
  refine p_callSi (As := [.int ((v3 &&& (s.1 128 6)) &&& v4)]) (t_J6_bitCount_0f7a4 hq5) cs_X1_74 rfl rfl (Nat.le_of_ble_eq_true rfl) dX1_tryHome_54 (yb_rok (by omega) (by decide)) ⟨rfl, rfl⟩ ⟨Nat.le_refl _, Nat.le_refl _⟩ (fun k6 => ?_)
  refine n_istore (i := 8) (vs' := [some (.ref (yb_ad G 128)), some (.int a1), some (.int a2), some (.int a3), some (.int a4), some (.int a5), some (.int v1), some (.int v2), some (.int q5)]) dX1_tryHome_57 (Nat.le_of_ble_eq_true rfl) rfl rfl ?_
  refine n_aload_n (i := 0) dX1_tryHome_59 rfl rfl ?_
  refine p_getr fl_X1_24 (sh_128 _ _) rfl (rR_128_11 _ _) dX1_tryHome_60 ?_
  refine n_iload_n (i := 1) dX1_tryHome_63 rfl rfl ?_
  refine n_iload_n (i := 2) dX1_tryHome_64 rfl rfl ?_
  obtain ⟨s7, hs7, h⟩ := yb_bind h
  refine p_iast hs7 (sh_133 _ _) dX1_tryHome_65 ?_
  refine n_aload_n (i := 0) dX1_tryHome_66 rfl rfl ?_
  refine p_getr fl_X1_36 (sh_128 _ _) rfl (rR_128_0 _ _) dX1_tryHome_67 ?_
  refine n_iload dX1_tryHome_70 rfl ?_
  refine n_iload_n (i := 2) dX1_tryHome_72 rfl rfl ?_
  obtain ⟨q8, hq8, h⟩ := yb_bind h
  refine p_callVv (As := [.int v1, .int a2]) (t_X8_settle hq8) cv_X1_95 (sh_1 _ _) rfl rfl (Nat.le_of_ble_eq_true rfl) dX1_tryHome_73 (yb_rok (by omega) (by decide)) ⟨rfl, rfl⟩ ⟨Nat.le_refl _, Nat.le_refl _⟩ (fun k9 => ?_)
  refine n_aload_n (i := 0) dX1_tryHome_76 rfl rfl ?_
  refine n_iload_n (i := 1) dX1_tryHome_77 rfl rfl ?_
  refine n_iconst (1 : Int32) dX1_tryHome_78 ic_1 ?_
  refine n_iadd dX1_tryHome_79 ?_
  refine n_iload_n (i := 3) dX1_tryHome_80 rfl rfl ?_
  refine n_aload_n (i := 0) dX1_tryHome_81 rfl rfl ?_
  refine p_getr fl_X1_36 (sh_128 _ _) rfl (rR_128_0 _ _) dX1_tryHome_82 ?_
  refine p_getr fl_X1_40 (sh_1 _ _) rfl (rR_1_2 _ _) dX1_tryHome_85 ?_
  refine p_getr fl_X1_99 (sh_21 _ _) rfl (rR_21_1 _ _) dX1_tryHome_88 ?_
  refine n_iload dX1_tryHome_91 rfl ?_
  obtain ⟨v10, hv10, h⟩ := yb_bind h
  refine p_iald hv10 (sh_22 _ _) dX1_tryHome_93 ?_
  refine n_iadd dX1_tryHome_94 ?_
  refine n_iload dX1_tryHome_95 rfl ?_
  refine n_iload dX1_tryHome_97 rfl ?_
  refine n_iadd dX1_tryHome_99 ?_
  refine n_iload dX1_tryHome_100 rfl ?_
  refine n_aload_n (i := 0) dX1_tryHome_102 rfl rfl ?_
  refine p_getr fl_X1_36 (sh_128 _ _) rfl (rR_128_0 _ _) dX1_tryHome_103 ?_
  refine n_iload dX1_tryHome_106 rfl ?_
  refine n_iload dX1_tryHome_108 rfl ?_
  obtain ⟨q11, hq11, h⟩ := yb_bind h
  refine p_callVi (As := [.int v1, .int v2]) (t_X8_wishMet hq11) cv_X1_142 (sh_1 _ _) rfl rfl (Nat.le_of_ble_eq_true rfl) dX1_tryHome_110 (yb_rok (by omega) (by decide)) ⟨rfl, rfl⟩ ⟨Nat.le_refl _, Nat.le_refl _⟩ (fun k12 => ?_)
  refine n_iadd dX1_tryHome_113 ?_
  obtain ⟨q13, hq13, h⟩ := yb_bind h
  refine p_callVv (As := [.int (a1 + (1 : Int32)), .int (a3 + v10), .int (a4 + q5), .int (a5 + q11)]) (H_X1_tryFrom (a1 + (1 : Int32)) (a3 + v10) (a4 + q5) (a5 + q11) _ _ hq13) cv_X1_91 (sh_128 _ _) rfl rfl (Nat.le_of_ble_eq_true rfl) dX1_tryHome_114 (yb_rok (by omega) (by decide)) ⟨rfl, rfl⟩ ⟨Nat.le_refl _, Nat.le_refl _⟩ (fun k14 => ?_)
  refine n_aload_n (i := 0) dX1_tryHome_117 rfl rfl ?_
  refine p_getr fl_X1_36 (sh_128 _ _) rfl (rR_128_0 _ _) dX1_tryHome_118 ?_
  refine n_iload dX1_tryHome_121 rfl ?_
  obtain ⟨q15, hq15, h⟩ := yb_bind h
  refine p_callVv (As := [.int v1]) (t_X8_unsettle hq15) cv_X1_81 (sh_1 _ _) rfl rfl (Nat.le_of_ble_eq_true rfl) dX1_tryHome_123 (yb_rok (by omega) (by decide)) ⟨rfl, rfl⟩ ⟨Nat.le_refl _, Nat.le_refl _⟩ (fun k16 => ?_)
  cases h
  exact n_vret dX1_tryHome_126 rfl (Nat.le_refl _) (Nat.le_refl _) ⟨rfl, rfl⟩
set_option maxHeartbeats 4000000 in
set_option maxRecDepth 20000 in
theorem tg_X1_tryFrom (G : yb_G) (X : List (FieldType × Nat)) : ∀ n : Nat, (∀ (a1 : Int32) (a2 : Int32) (a3 : Int32) (a4 : Int32) (s : yb_S) (out : yb_S), (gg_X1_tryFrom n).1 a1 a2 a3 a4 s = some out → Ct G yX1_tryFrom cX1_tryFrom 6 none (yb_rm (6 + n)) [.ref (yb_ad G 128), .int a1, .int a2, .int a3, .int a4] (yb_mk s X) (yb_qv X out)) ∧ (∀ (a1 : Int32) (a2 : Int32) (a3 : Int32) (a4 : Int32) (a5 : Int32) (s : yb_S) (out : yb_S), (gg_X1_tryFrom n).2 a1 a2 a3 a4 a5 s = some out → Ct G yX1_tryHome cX1_tryHome 9 none (yb_rm (6 + n)) [.ref (yb_ad G 128), .int a1, .int a2, .int a3, .int a4, .int a5] (yb_mk s X) (yb_qv X out)) := by
  intro n
  induction n with
  | zero => exact ⟨(fun _ _ _ _ _ _ h => by cases h), (fun _ _ _ _ _ _ _ h => by cases h)⟩
  | succ n ih =>
    obtain ⟨h0, h1⟩ := ih
    rw [show 6 + (n + 1) = 7 + n from by omega]
    exact ⟨(fun a1 a2 a3 a4 s out h => t_X1_tryFrom h0 h1 h), (fun a1 a2 a3 a4 a5 s out h => t_X1_tryHome h0 h1 h)⟩
set_option maxHeartbeats 4000000 in
set_option maxRecDepth 20000 in
theorem tt_X1_tryFrom {G : yb_G} {X : List (FieldType × Nat)} {a1 : Int32} {a2 : Int32} {a3 : Int32} {a4 : Int32} {s : yb_S} {out : yb_S} (h : g_X1_tryFrom a1 a2 a3 a4 s = some out) : Ct G yX1_tryFrom cX1_tryFrom 6 none (yb_rm 126) [.ref (yb_ad G 128), .int a1, .int a2, .int a3, .int a4] (yb_mk s X) (yb_qv X out) := (tg_X1_tryFrom G X 120).1 a1 a2 a3 a4 s out h
set_option maxHeartbeats 4000000 in
set_option maxRecDepth 20000 in
theorem tt_X1_tryHome {G : yb_G} {X : List (FieldType × Nat)} {a1 : Int32} {a2 : Int32} {a3 : Int32} {a4 : Int32} {a5 : Int32} {s : yb_S} {out : yb_S} (h : g_X1_tryHome a1 a2 a3 a4 a5 s = some out) : Ct G yX1_tryHome cX1_tryHome 9 none (yb_rm 126) [.ref (yb_ad G 128), .int a1, .int a2, .int a3, .int a4, .int a5] (yb_mk s X) (yb_qv X out) := (tg_X1_tryFrom G X 120).2 a1 a2 a3 a4 a5 s out h
set_option maxHeartbeats 4000000 in
set_option maxRecDepth 20000 in
theorem tj_X1_search_108 {G : yb_G} {X : List (FieldType × Nat)} {rc71 : (Int32 → yb_S → Option yb_S)} {x1 : Int32} {s : yb_S} {out : yb_S} (hrc71 : ∀ (x1' : Int32) (s' : yb_S), rc71 x1' s' = some out → Rn G RX1 cX1_search 2 none false (yb_rm 127) (yb_qv X out) 0 0 71 [some (.ref (yb_ad G 128)), some (.int x1')] [] (yb_mk s' X)) (h : j_X1_search_108 rc71 x1 s = some out) : Rn G RX1 cX1_search 2 none false (yb_rm 127) (yb_qv X out) 0 0 108 [some (.ref (yb_ad G 128)), some (.int x1)] [] (yb_mk s X) := by
  unfold j_X1_search_108 at h
  refine n_iinc (vs' := [some (.ref (yb_ad G 128)), some (.int (x1 + (1 : Int32)))]) dX1_search_108 rfl (ii_1 _) (Nat.le_of_ble_eq_true rfl) rfl rfl ?_
  refine n_goto 71 dX1_search_111 (by decide) ?_
  exact p_jump (hrc71 (x1 + (1 : Int32)) s h) (And.intro rfl (And.intro rfl trivial))
set_option maxHeartbeats 4000000 in
set_option maxRecDepth 20000 in
theorem t_l_X1_search_71 {G : yb_G} {X : List (FieldType × Nat)} {out : yb_S} : ∀ (k0 : Nat) (x1 : Int32) (s : yb_S), l_X1_search_71 k0 x1 s = some out → Rn G RX1 cX1_search 2 none false (yb_rm 127) (yb_qv X out) 0 0 71 [some (.ref (yb_ad G 128)), some (.int x1)] [] (yb_mk s X) := by
  intro k0
  induction k0 with
  | zero => intro x1 s h; cases h
  | succ k0 ih =>
    intro x1 s h
    have h : f_X1_search_71 (fun x1 s => l_X1_search_71 k0 x1 s) x1 s = some out := h
    have hrc71 := ih
    unfold f_X1_search_71 at h
    refine n_iload_n (i := 1) dX1_search_71 rfl rfl ?_
    refine n_aload_n (i := 0) dX1_search_72 rfl rfl ?_
    refine p_geti fl_X1_56 (sh_128 _ _) rfl dX1_search_73 ?_
    refine n_icmp_ge 114 dX1_search_76 (by decide) (fun c7 => ?_) (fun c7 => ?_)
    · have h := yb_ifp c7 h
      cases h
      exact n_vret dX1_search_114 rfl (Nat.le_refl _) (Nat.le_refl _) ⟨rfl, rfl⟩
    · have h := yb_ifn c7 h
      refine n_aload_n (i := 0) dX1_search_79 rfl rfl ?_
      refine p_getr fl_X1_21 (sh_128 _ _) rfl (rR_128_10 _ _) dX1_search_80 ?_
      refine n_iload_n (i := 1) dX1_search_83 rfl rfl ?_
      obtain ⟨v8, hv8, h⟩ := yb_bind h
      refine p_iald hv8 (sh_132 _ _) dX1_search_84 ?_
      refine n_iconst (-1 : Int32) dX1_search_85 ic_m1 ?_
      refine n_icmp_eq 108 dX1_search_86 (by decide) (fun c9 => ?_) (fun c9 => ?_)
      · have h := yb_ifp c9 h
        exact p_jump (tj_X1_search_108 hrc71 h) (And.intro rfl (And.intro rfl trivial))
      · have h := yb_ifn c9 h
        refine n_aload_n (i := 0) dX1_search_89 rfl rfl ?_
        refine p_getr fl_X1_36 (sh_128 _ _) rfl (rR_128_0 _ _) dX1_search_90 ?_
        refine n_aload_n (i := 0) dX1_search_93 rfl rfl ?_
        refine p_getr fl_X1_15 (sh_128 _ _) rfl (rR_128_8 _ _) dX1_search_94 ?_
        refine n_iload_n (i := 1) dX1_search_97 rfl rfl ?_
        obtain ⟨v10, hv10, h⟩ := yb_bind h
        refine p_iald hv10 (sh_130 _ _) dX1_search_98 ?_
        refine n_aload_n (i := 0) dX1_search_99 rfl rfl ?_
        refine p_getr fl_X1_21 (sh_128 _ _) rfl (rR_128_10 _ _) dX1_search_100 ?_
        refine n_iload_n (i := 1) dX1_search_103 rfl rfl ?_
        obtain ⟨v11, hv11, h⟩ := yb_bind h
        refine p_iald hv11 (sh_132 _ _) dX1_search_104 ?_
        obtain ⟨q12, hq12, h⟩ := yb_bind h
        refine p_callVv (As := [.int v10, .int v11]) (t_X8_settle hq12) cv_X1_95 (sh_1 _ _) rfl rfl (Nat.le_of_ble_eq_true rfl) dX1_search_105 (yb_rok (Nat.le_of_ble_eq_true rfl) (by decide)) ⟨rfl, rfl⟩ ⟨Nat.le_refl _, Nat.le_refl _⟩ (fun k13 => ?_)
        exact p_jump (tj_X1_search_108 hrc71 h) (And.intro rfl (And.intro rfl trivial))
set_option maxHeartbeats 4000000 in
set_option maxRecDepth 20000 in
theorem tl_X1_search_71 {G : yb_G} {X : List (FieldType × Nat)} {out : yb_S} {x1 : Int32} {s : yb_S} (h : l_X1_search_71 yb_N x1 s = some out) : Rn G RX1 cX1_search 2 none false (yb_rm 127) (yb_qv X out) 0 0 71 [some (.ref (yb_ad G 128)), some (.int x1)] [] (yb_mk s X) := t_l_X1_search_71 _ _ _ h
set_option maxHeartbeats 4000000 in
set_option maxRecDepth 20000 in
theorem t_l_X1_search_2 {G : yb_G} {X : List (FieldType × Nat)} {out : yb_S} : ∀ (k0 : Nat) (x1 : Int32) (s : yb_S), l_X1_search_2 k0 x1 s = some out → Rn G RX1 cX1_search 2 none false (yb_rm 127) (yb_qv X out) 0 0 2 [some (.ref (yb_ad G 128)), some (.int x1)] [] (yb_mk s X) := by
  intro k0
  induction k0 with
  | zero => intro x1 s h; cases h
  | succ k0 ih =>
    intro x1 s h
    have h : f_X1_search_2 (fun x1 s => l_X1_search_2 k0 x1 s) x1 s = some out := h
    have hrc2 := ih
    unfold f_X1_search_2 at h
    refine n_iload_n (i := 1) dX1_search_2 rfl rfl ?_
    refine n_aload_n (i := 0) dX1_search_3 rfl rfl ?_
    refine p_geti fl_X1_56 (sh_128 _ _) rfl dX1_search_4 ?_
    refine n_icmp_ge 52 dX1_search_7 (by decide) (fun c1 => ?_) (fun c1 => ?_)
    · have h := yb_ifp c1 h
      refine n_aload_n (i := 0) dX1_search_52 rfl rfl ?_
      obtain ⟨q2, hq2, h⟩ := yb_bind h
      refine p_callVv (As := []) (t_X1_countLeft hq2) cv_X1_85 (sh_128 _ _) rfl rfl (Nat.le_of_ble_eq_true rfl) dX1_search_53 (yb_rok (Nat.le_of_ble_eq_true rfl) (by decide)) ⟨rfl, rfl⟩ ⟨Nat.le_refl _, Nat.le_refl _⟩ (fun k3 => ?_)
      refine n_aload_n (i := 0) dX1_search_56 rfl rfl ?_
      refine n_iconst (-1 : Int32) dX1_search_57 ic_m1 ?_
      obtain ⟨s4, hs4, h⟩ := yb_bind h
      refine p_puti hs4 fp_X1_88 (sh_128 _ _) rfl rfl rfl dX1_search_58 ?_
      refine n_aload_n (i := 0) dX1_search_61 rfl rfl ?_
      refine n_iconst (0 : Int32) dX1_search_62 ic_0 ?_
      refine n_iconst (0 : Int32) dX1_search_63 ic_0 ?_
      refine n_iconst (0 : Int32) dX1_search_64 ic_0 ?_
      refine n_iconst (0 : Int32) dX1_search_65 ic_0 ?_
      obtain ⟨q5, hq5, h⟩ := yb_bind h
      refine p_callVv (As := [.int (0 : Int32), .int (0 : Int32), .int (0 : Int32), .int (0 : Int32)]) (tt_X1_tryFrom hq5) cv_X1_91 (sh_128 _ _) rfl rfl (Nat.le_of_ble_eq_true rfl) dX1_search_66 (yb_rok (Nat.le_of_ble_eq_true rfl) (by decide)) ⟨rfl, rfl⟩ ⟨Nat.le_refl _, Nat.le_refl _⟩ (fun k6 => ?_)
      refine n_iconst (0 : Int32) dX1_search_69 ic_0 ?_
      refine n_istore_n (i := 1) (vs' := [some (.ref (yb_ad G 128)), some (.int (0 : Int32))]) dX1_search_70 rfl (Nat.le_of_ble_eq_true rfl) rfl rfl ?_
      exact p_jump (tl_X1_search_71 h) (And.intro rfl (And.intro rfl trivial))
    · have h := yb_ifn c1 h
      refine n_aload_n (i := 0) dX1_search_10 rfl rfl ?_
      refine p_getr fl_X1_21 (sh_128 _ _) rfl (rR_128_10 _ _) dX1_search_11 ?_
      refine n_iload_n (i := 1) dX1_search_14 rfl rfl ?_
      refine n_aload_n (i := 0) dX1_search_15 rfl rfl ?_
      refine p_getr fl_X1_36 (sh_128 _ _) rfl (rR_128_0 _ _) dX1_search_16 ?_
      refine p_getr fl_X1_40 (sh_1 _ _) rfl (rR_1_2 _ _) dX1_search_19 ?_
      refine p_getr fl_X1_80 (sh_21 _ _) rfl (rR_21_8 _ _) dX1_search_22 ?_
      refine n_aload_n (i := 0) dX1_search_25 rfl rfl ?_
      refine p_getr fl_X1_15 (sh_128 _ _) rfl (rR_128_8 _ _) dX1_search_26 ?_
      refine n_iload_n (i := 1) dX1_search_29 rfl rfl ?_
      obtain ⟨v14, hv14, h⟩ := yb_bind h
      refine p_iald hv14 (sh_130 _ _) dX1_search_30 ?_
      obtain ⟨v15, hv15, h⟩ := yb_bind h
      refine p_iald hv15 (sh_29 _ _) dX1_search_31 ?_
      obtain ⟨s16, hs16, h⟩ := yb_bind h
      refine p_iast hs16 (sh_132 _ _) dX1_search_32 ?_
      refine n_aload_n (i := 0) dX1_search_33 rfl rfl ?_
      refine p_getr fl_X1_36 (sh_128 _ _) rfl (rR_128_0 _ _) dX1_search_34 ?_
      refine n_aload_n (i := 0) dX1_search_37 rfl rfl ?_
      refine p_getr fl_X1_15 (sh_128 _ _) rfl (rR_128_8 _ _) dX1_search_38 ?_
      refine n_iload_n (i := 1) dX1_search_41 rfl rfl ?_
      obtain ⟨v17, hv17, h⟩ := yb_bind h
      refine p_iald hv17 (sh_130 _ _) dX1_search_42 ?_
      obtain ⟨q18, hq18, h⟩ := yb_bind h
      refine p_callVv (As := [.int v17]) (t_X8_unsettle hq18) cv_X1_81 (sh_1 _ _) rfl rfl (Nat.le_of_ble_eq_true rfl) dX1_search_43 (yb_rok (Nat.le_of_ble_eq_true rfl) (by decide)) ⟨rfl, rfl⟩ ⟨Nat.le_refl _, Nat.le_refl _⟩ (fun k19 => ?_)
      refine n_iinc (vs' := [some (.ref (yb_ad G 128)), some (.int (x1 + (1 : Int32)))]) dX1_search_46 rfl (ii_1 _) (Nat.le_of_ble_eq_true rfl) rfl rfl ?_
      refine n_goto 2 dX1_search_49 (by decide) ?_
      exact p_jump (hrc2 (x1 + (1 : Int32)) q18 h) (And.intro rfl (And.intro rfl trivial))
set_option maxHeartbeats 4000000 in
set_option maxRecDepth 20000 in
theorem tl_X1_search_2 {G : yb_G} {X : List (FieldType × Nat)} {out : yb_S} {x1 : Int32} {s : yb_S} (h : l_X1_search_2 yb_N x1 s = some out) : Rn G RX1 cX1_search 2 none false (yb_rm 127) (yb_qv X out) 0 0 2 [some (.ref (yb_ad G 128)), some (.int x1)] [] (yb_mk s X) := t_l_X1_search_2 _ _ _ h
set_option maxHeartbeats 4000000 in
set_option maxRecDepth 20000 in
theorem t_X1_search {G : yb_G} {X : List (FieldType × Nat)} {s : yb_S} {out : yb_S} (h : f_X1_search s = some out) : Ct G yX1_search cX1_search 2 none (yb_rm 127) [.ref (yb_ad G 128)] (yb_mk s X) (yb_qv X out) := by
  refine Ct.of (own := RX1) (ini := false) (vs := [some (.ref (yb_ad G 128)), none]) ⟨rfl, by decide +kernel⟩ (fun h => by cases h) (Nat.le_of_ble_eq_true rfl) rfl ?_
  unfold f_X1_search at h
  refine n_iconst (0 : Int32) dX1_search_0 ic_0 ?_
  refine n_istore_n (i := 1) (vs' := [some (.ref (yb_ad G 128)), some (.int (0 : Int32))]) dX1_search_1 rfl (Nat.le_of_ble_eq_true rfl) rfl rfl ?_
  exact p_jump (tl_X1_search_2 h) (And.intro rfl (And.intro rfl trivial))
set_option maxHeartbeats 4000000 in
set_option maxRecDepth 20000 in
theorem t_X11_best {G : yb_G} {X : List (FieldType × Nat)} {a1 : Int32} {a2 : Int32} {a3 : Int32} {s : yb_S} {out : (Int32 × yb_S)} (h : f_X11_best a1 a2 a3 s = some out) : Ct G yX11_best cX11_best 4 (Option.some .int) (yb_rm 128) [.ref (yb_ad G 0), .int a1, .int a2, .int a3] (yb_mk s X) (yb_qi X out.2 out.1) := by
  refine Ct.of (own := RX11) (ini := false) (vs := [some (.ref (yb_ad G 0)), some (.int a1), some (.int a2), some (.int a3)]) ⟨rfl, by decide +kernel⟩ (fun h => by cases h) (Nat.le_of_ble_eq_true rfl) rfl ?_
  unfold f_X11_best at h
  refine n_aload_n (i := 0) dX11_best_0 rfl rfl ?_
  refine p_getr fl_X11_35 (sh_0 _ _) rfl (rR_0_3 _ _) dX11_best_1 ?_
  refine n_iload_n (i := 1) dX11_best_4 rfl rfl ?_
  refine n_iload_n (i := 2) dX11_best_5 rfl rfl ?_
  obtain ⟨q1, hq1, h⟩ := yb_bind h
  refine p_callVi (As := [.int a1, .int a2]) (t_X1_takes hq1) cv_X11_295 (sh_128 _ _) rfl rfl (Nat.le_of_ble_eq_true rfl) dX11_best_6 (yb_rok (Nat.le_of_ble_eq_true rfl) (by decide)) ⟨rfl, rfl⟩ ⟨Nat.le_refl _, Nat.le_refl _⟩ (fun k2 => ?_)
  refine n_if_eq 28 dX11_best_9 (by decide) (fun c3 => ?_) (fun c3 => ?_)
  · have h := yb_ifp c3 h
    refine n_iconst (-1 : Int32) dX11_best_28 ic_m1 ?_
    cases h
    exact n_iret dX11_best_29 rfl rfl (Nat.le_refl _) (Nat.le_refl _) ⟨rfl, rfl⟩
  · have h := yb_ifn c3 h
    refine n_iload_n (i := 3) dX11_best_12 rfl rfl ?_
    refine n_iconst (-1 : Int32) dX11_best_13 ic_m1 ?_
    refine n_icmp_lt 28 dX11_best_14 (by decide) (fun c4 => ?_) (fun c4 => ?_)
    · have h := yb_ifp c4 h
      refine n_iconst (-1 : Int32) dX11_best_28 ic_m1 ?_
      cases h
      exact n_iret dX11_best_29 rfl rfl (Nat.le_refl _) (Nat.le_refl _) ⟨rfl, rfl⟩
    · have h := yb_ifn c4 h
      refine n_iload_n (i := 3) dX11_best_17 rfl rfl ?_
      refine n_aload_n (i := 0) dX11_best_18 rfl rfl ?_
      refine p_getr fl_X11_35 (sh_0 _ _) rfl (rR_0_3 _ _) dX11_best_19 ?_
      refine p_geti fl_X11_298 (sh_128 _ _) rfl dX11_best_22 ?_
      refine n_icmp_lt 30 dX11_best_25 (by decide) (fun c5 => ?_) (fun c5 => ?_)
      · have h := yb_ifp c5 h
        refine n_aload_n (i := 0) dX11_best_30 rfl rfl ?_
        refine p_getr fl_X11_35 (sh_0 _ _) rfl (rR_0_3 _ _) dX11_best_31 ?_
        obtain ⟨q6, hq6, h⟩ := yb_bind h
        refine p_callVv (As := []) (t_X1_search hq6) cv_X11_300 (sh_128 _ _) rfl rfl (Nat.le_of_ble_eq_true rfl) dX11_best_34 (yb_rok (Nat.le_of_ble_eq_true rfl) (by decide)) ⟨rfl, rfl⟩ ⟨Nat.le_refl _, Nat.le_refl _⟩ (fun k7 => ?_)
        refine n_iload_n (i := 3) dX11_best_37 rfl rfl ?_
        refine n_iconst (-1 : Int32) dX11_best_38 ic_m1 ?_
        refine n_icmp_ne 52 dX11_best_39 (by decide) (fun c8 => ?_) (fun c8 => ?_)
        · have h := yb_ifn c8 h
          refine n_aload_n (i := 0) dX11_best_52 rfl rfl ?_
          refine p_getr fl_X11_35 (sh_0 _ _) rfl (rR_0_3 _ _) dX11_best_53 ?_
          refine p_getr fl_X11_306 (sh_128 _ _) rfl (rR_128_3 _ _) dX11_best_56 ?_
          refine n_iload_n (i := 3) dX11_best_59 rfl rfl ?_
          obtain ⟨v9, hv9, h⟩ := yb_bind h
          refine p_iald hv9 (sh_129 _ _) dX11_best_60 ?_
          cases h
          exact n_iret dX11_best_61 rfl rfl (Nat.le_refl _) (Nat.le_refl _) ⟨rfl, rfl⟩
        · have h := yb_ifp c8 h
          refine n_aload_n (i := 0) dX11_best_42 rfl rfl ?_
          refine p_getr fl_X11_35 (sh_0 _ _) rfl (rR_0_3 _ _) dX11_best_43 ?_
          refine p_geti fl_X11_303 (sh_128 _ _) rfl dX11_best_46 ?_
          refine n_goto 61 dX11_best_49 (by decide) ?_
          cases h
          exact n_iret dX11_best_61 rfl rfl (Nat.le_refl _) (Nat.le_refl _) ⟨rfl, rfl⟩
      · have h := yb_ifn c5 h
        refine n_iconst (-1 : Int32) dX11_best_28 ic_m1 ?_
        cases h
        exact n_iret dX11_best_29 rfl rfl (Nat.le_refl _) (Nat.le_refl _) ⟨rfl, rfl⟩
set_option maxHeartbeats 4000000 in
set_option maxRecDepth 20000 in
theorem t_X8_limitOf {G : yb_G} {X : List (FieldType × Nat)} {a1 : Int32} {s : yb_S} {out : (Int32 × yb_S)} (h : f_X8_limitOf a1 s = some out) : Ct G yX8_limitOf cX8_limitOf 2 (Option.some .int) (yb_rm 5) [.ref (yb_ad G 1), .int a1] (yb_mk s X) (yb_qi X out.2 out.1) := by
  refine Ct.of (own := RX8) (ini := false) (vs := [some (.ref (yb_ad G 1)), some (.int a1)]) ⟨rfl, by decide +kernel⟩ (fun h => by cases h) (Nat.le_of_ble_eq_true rfl) rfl ?_
  unfold f_X8_limitOf at h
  refine n_aload_n (i := 0) dX8_limitOf_0 rfl rfl ?_
  refine n_iconst (2 : Int32) dX8_limitOf_1 ic_2 ?_
  refine n_iload_n (i := 1) dX8_limitOf_2 rfl rfl ?_
  refine n_iconst (-1 : Int32) dX8_limitOf_3 ic_m1 ?_
  refine n_iconst (-1 : Int32) dX8_limitOf_4 ic_m1 ?_
  refine n_iconst (0 : Int32) dX8_limitOf_5 ic_0 ?_
  obtain ⟨q1, hq1, h⟩ := yb_bind h
  refine p_callVi (As := [.int (2 : Int32), .int a1, .int (-1 : Int32), .int (-1 : Int32), .int (0 : Int32)]) (t_X8_tells hq1) cv_X8_144 (sh_1 _ _) rfl rfl (Nat.le_of_ble_eq_true rfl) dX8_limitOf_6 (yb_rok (Nat.le_of_ble_eq_true rfl) (by decide)) ⟨rfl, rfl⟩ ⟨Nat.le_refl _, Nat.le_refl _⟩ (fun k2 => ?_)
  cases h
  exact n_iret dX8_limitOf_9 rfl rfl (Nat.le_refl _) (Nat.le_refl _) ⟨rfl, rfl⟩
set_option maxHeartbeats 4000000 in
set_option maxRecDepth 20000 in
theorem tj_X11_beyond_59 {G : yb_G} {X : List (FieldType × Nat)} {rc4 : (Int32 → Int32 → yb_S → Option (Int32 × yb_S))} {x1 : Int32} {x2 : Int32} {s : yb_S} {out : (Int32 × yb_S)} (hrc4 : ∀ (x1' : Int32) (x2' : Int32) (s' : yb_S), rc4 x1' x2' s' = some out → Rn G RX11 cX11_beyond 3 (Option.some .int) false (yb_rm 6) (yb_qi X out.2 out.1) 0 0 4 [some (.ref (yb_ad G 0)), some (.int x1'), some (.int x2')] [] (yb_mk s' X)) (h : j_X11_beyond_59 rc4 x1 x2 s = some out) : Rn G RX11 cX11_beyond 3 (Option.some .int) false (yb_rm 6) (yb_qi X out.2 out.1) 0 0 59 [some (.ref (yb_ad G 0)), some (.int x1), some (.int x2)] [] (yb_mk s X) := by
  unfold j_X11_beyond_59 at h
  refine n_iinc (vs' := [some (.ref (yb_ad G 0)), some (.int x1), some (.int (x2 + (1 : Int32)))]) dX11_beyond_59 rfl (ii_1 _) (Nat.le_of_ble_eq_true rfl) rfl rfl ?_
  refine n_goto 4 dX11_beyond_62 (by decide) ?_
  exact p_jump (hrc4 x1 (x2 + (1 : Int32)) s h) (And.intro rfl (And.intro rfl (And.intro rfl trivial)))
set_option maxHeartbeats 4000000 in
set_option maxRecDepth 20000 in
theorem t_l_X11_beyond_4 {G : yb_G} {X : List (FieldType × Nat)} {out : (Int32 × yb_S)} : ∀ (k0 : Nat) (x1 : Int32) (x2 : Int32) (s : yb_S), l_X11_beyond_4 k0 x1 x2 s = some out → Rn G RX11 cX11_beyond 3 (Option.some .int) false (yb_rm 6) (yb_qi X out.2 out.1) 0 0 4 [some (.ref (yb_ad G 0)), some (.int x1), some (.int x2)] [] (yb_mk s X) := by
  intro k0
  induction k0 with
  | zero => intro x1 x2 s h; cases h
  | succ k0 ih =>
    intro x1 x2 s h
    have h : f_X11_beyond_4 (fun x1 x2 s => l_X11_beyond_4 k0 x1 x2 s) x1 x2 s = some out := h
    have hrc4 := ih
    unfold f_X11_beyond_4 at h
    refine n_iload_n (i := 2) dX11_beyond_4 rfl rfl ?_
    refine n_aload_n (i := 0) dX11_beyond_5 rfl rfl ?_
    refine p_getr fl_X11_10 (sh_0 _ _) rfl (rR_0_0 _ _) dX11_beyond_6 ?_
    refine p_getr fl_X11_100 (sh_1 _ _) rfl (rR_1_2 _ _) dX11_beyond_9 ?_
    refine p_geti fl_X11_281 (sh_21 _ _) rfl dX11_beyond_12 ?_
    refine n_icmp_ge 65 dX11_beyond_15 (by decide) (fun c1 => ?_) (fun c1 => ?_)
    · have h := yb_ifp c1 h
      refine n_iload_n (i := 1) dX11_beyond_65 rfl rfl ?_
      cases h
      exact n_iret dX11_beyond_66 rfl rfl (Nat.le_refl _) (Nat.le_refl _) ⟨rfl, rfl⟩
    · have h := yb_ifn c1 h
      refine n_aload_n (i := 0) dX11_beyond_18 rfl rfl ?_
      refine p_getr fl_X11_10 (sh_0 _ _) rfl (rR_0_0 _ _) dX11_beyond_19 ?_
      refine p_getr fl_X11_100 (sh_1 _ _) rfl (rR_1_2 _ _) dX11_beyond_22 ?_
      refine p_getr fl_X11_259 (sh_21 _ _) rfl (rR_21_7 _ _) dX11_beyond_25 ?_
      refine n_iload_n (i := 2) dX11_beyond_28 rfl rfl ?_
      obtain ⟨v2, hv2, h⟩ := yb_bind h
      refine p_iald hv2 (sh_28 _ _) dX11_beyond_29 ?_
      refine n_if_ne 59 dX11_beyond_30 (by decide) (fun c3 => ?_) (fun c3 => ?_)
      · have h := yb_ifn c3 h
        exact p_jump (tj_X11_beyond_59 hrc4 h) (And.intro rfl (And.intro rfl (And.intro rfl trivial)))
      · have h := yb_ifp c3 h
        refine n_aload_n (i := 0) dX11_beyond_33 rfl rfl ?_
        refine p_getr fl_X11_10 (sh_0 _ _) rfl (rR_0_0 _ _) dX11_beyond_34 ?_
        refine p_getr fl_X11_100 (sh_1 _ _) rfl (rR_1_2 _ _) dX11_beyond_37 ?_
        refine p_getr fl_X11_284 (sh_21 _ _) rfl (rR_21_10 _ _) dX11_beyond_40 ?_
        refine n_iload_n (i := 2) dX11_beyond_43 rfl rfl ?_
        obtain ⟨v4, hv4, h⟩ := yb_bind h
        refine p_iald hv4 (sh_31 _ _) dX11_beyond_44 ?_
        refine n_aload_n (i := 0) dX11_beyond_45 rfl rfl ?_
        refine p_getr fl_X11_10 (sh_0 _ _) rfl (rR_0_0 _ _) dX11_beyond_46 ?_
        refine n_iload_n (i := 2) dX11_beyond_49 rfl rfl ?_
        obtain ⟨q5, hq5, h⟩ := yb_bind h
        refine p_callVi (As := [.int x2]) (t_X8_limitOf hq5) cv_X11_217 (sh_1 _ _) rfl rfl (Nat.le_of_ble_eq_true rfl) dX11_beyond_50 (yb_rok (Nat.le_of_ble_eq_true rfl) (by decide)) ⟨rfl, rfl⟩ ⟨Nat.le_refl _, Nat.le_refl _⟩ (fun k6 => ?_)
        refine n_icmp_le 59 dX11_beyond_53 (by decide) (fun c7 => ?_) (fun c7 => ?_)
        · have h := yb_ifp c7 h
          exact p_jump (tj_X11_beyond_59 hrc4 h) (And.intro rfl (And.intro rfl (And.intro rfl trivial)))
        · have h := yb_ifn c7 h
          refine n_iinc (vs' := [some (.ref (yb_ad G 0)), some (.int (x1 + (1 : Int32))), some (.int x2)]) dX11_beyond_56 rfl (ii_1 _) (Nat.le_of_ble_eq_true rfl) rfl rfl ?_
          exact p_jump (tj_X11_beyond_59 hrc4 h) (And.intro rfl (And.intro rfl (And.intro rfl trivial)))
set_option maxHeartbeats 4000000 in
set_option maxRecDepth 20000 in
theorem tl_X11_beyond_4 {G : yb_G} {X : List (FieldType × Nat)} {out : (Int32 × yb_S)} {x1 : Int32} {x2 : Int32} {s : yb_S} (h : l_X11_beyond_4 yb_N x1 x2 s = some out) : Rn G RX11 cX11_beyond 3 (Option.some .int) false (yb_rm 6) (yb_qi X out.2 out.1) 0 0 4 [some (.ref (yb_ad G 0)), some (.int x1), some (.int x2)] [] (yb_mk s X) := t_l_X11_beyond_4 _ _ _ _ h
set_option maxHeartbeats 4000000 in
set_option maxRecDepth 20000 in
theorem t_X11_beyond {G : yb_G} {X : List (FieldType × Nat)} {s : yb_S} {out : (Int32 × yb_S)} (h : f_X11_beyond s = some out) : Ct G yX11_beyond cX11_beyond 3 (Option.some .int) (yb_rm 6) [.ref (yb_ad G 0)] (yb_mk s X) (yb_qi X out.2 out.1) := by
  refine Ct.of (own := RX11) (ini := false) (vs := [some (.ref (yb_ad G 0)), none, none]) ⟨rfl, by decide +kernel⟩ (fun h => by cases h) (Nat.le_of_ble_eq_true rfl) rfl ?_
  unfold f_X11_beyond at h
  refine n_iconst (0 : Int32) dX11_beyond_0 ic_0 ?_
  refine n_istore_n (i := 1) (vs' := [some (.ref (yb_ad G 0)), some (.int (0 : Int32)), none]) dX11_beyond_1 rfl (Nat.le_of_ble_eq_true rfl) rfl rfl ?_
  refine n_iconst (0 : Int32) dX11_beyond_2 ic_0 ?_
  refine n_istore_n (i := 2) (vs' := [some (.ref (yb_ad G 0)), some (.int (0 : Int32)), some (.int (0 : Int32))]) dX11_beyond_3 rfl (Nat.le_of_ble_eq_true rfl) rfl rfl ?_
  exact p_jump (tl_X11_beyond_4 h) (And.intro rfl (And.intro rfl (And.intro rfl trivial)))
set_option maxHeartbeats 4000000 in
set_option maxRecDepth 20000 in
theorem t_X11_isAhead {G : yb_G} {X : List (FieldType × Nat)} {a1 : Int32} {s : yb_S} {out : Int32} (h : f_X11_isAhead a1 s = some out) : Ct G yX11_isAhead cX11_isAhead 2 (Option.some .boolean) (yb_rm 1) [.ref (yb_ad G 0), .int a1] (yb_mk s X) (yb_qi X s out) := by
  refine Ct.of (own := RX11) (ini := false) (vs := [some (.ref (yb_ad G 0)), some (.int a1)]) ⟨rfl, by decide +kernel⟩ (fun h => by cases h) (Nat.le_of_ble_eq_true rfl) rfl ?_
  unfold f_X11_isAhead at h
  refine n_iload_n (i := 1) dX11_isAhead_0 rfl rfl ?_
  refine n_aload_n (i := 0) dX11_isAhead_1 rfl rfl ?_
  refine p_getr fl_X11_10 (sh_0 _ _) rfl (rR_0_0 _ _) dX11_isAhead_2 ?_
  refine p_geti fl_X11_104 (sh_1 _ _) rfl dX11_isAhead_5 ?_
  refine n_icmp_lt 22 dX11_isAhead_8 (by decide) (fun c1 => ?_) (fun c1 => ?_)
  · have h := yb_ifp c1 h
    refine n_iconst (0 : Int32) dX11_isAhead_22 ic_0 ?_
    cases h
    exact n_iret dX11_isAhead_23 rfl (by decide) (Nat.le_refl _) (Nat.le_refl _) ⟨rfl, rfl⟩
  · have h := yb_ifn c1 h
    refine n_iload_n (i := 1) dX11_isAhead_11 rfl rfl ?_
    refine n_sipush (200 : Int32) dX11_isAhead_12 sp_200 ?_
    refine n_icmp_gt 22 dX11_isAhead_15 (by decide) (fun c2 => ?_) (fun c2 => ?_)
    · have h := yb_ifp c2 h
      refine n_iconst (0 : Int32) dX11_isAhead_22 ic_0 ?_
      cases h
      exact n_iret dX11_isAhead_23 rfl (by decide) (Nat.le_refl _) (Nat.le_refl _) ⟨rfl, rfl⟩
    · have h := yb_ifn c2 h
      refine n_iconst (1 : Int32) dX11_isAhead_18 ic_1 ?_
      refine n_goto 23 dX11_isAhead_19 (by decide) ?_
      cases h
      exact n_iret dX11_isAhead_23 rfl (by decide) (Nat.le_refl _) (Nat.le_refl _) ⟨rfl, rfl⟩
set_option maxHeartbeats 4000000 in
set_option maxRecDepth 20000 in
theorem t_X3_addBoat {G : yb_G} {X : List (FieldType × Nat)} {a1 : Int32} {a2 : Int32} {a3 : Int32} {s : yb_S} {out : (Int32 × yb_S)} (h : f_X3_addBoat a1 a2 a3 s = some out) : Ct G yX3_addBoat cX3_addBoat 4 (Option.some .int) (yb_rm 1) [.ref (yb_ad G 172), .int a1, .int a2, .int a3] (yb_mk s X) (yb_qi X out.2 out.1) := by
  refine Ct.of (own := RX3) (ini := false) (vs := [some (.ref (yb_ad G 172)), some (.int a1), some (.int a2), some (.int a3)]) ⟨rfl, by decide +kernel⟩ (fun h => by cases h) (Nat.le_of_ble_eq_true rfl) rfl ?_
  unfold f_X3_addBoat at h
  refine n_aload_n (i := 0) dX3_addBoat_0 rfl rfl ?_
  refine p_geti fl_X3_21 (sh_172 _ _) rfl dX3_addBoat_1 ?_
  refine n_bipush (40 : Int32) dX3_addBoat_4 bp_40 ?_
  refine n_icmp_lt 11 dX3_addBoat_6 (by decide) (fun c1 => ?_) (fun c1 => ?_)
  · have h := yb_ifp c1 h
    refine n_aload_n (i := 0) dX3_addBoat_11 rfl rfl ?_
    refine p_getr fl_X3_9 (sh_172 _ _) rfl (rR_172_2 _ _) dX3_addBoat_12 ?_
    refine n_iload_n (i := 1) dX3_addBoat_15 rfl rfl ?_
    refine n_dup2 dX3_addBoat_16 rfl rfl ?_
    obtain ⟨v2, hv2, h⟩ := yb_bind h
    refine p_iald hv2 (sh_173 _ _) dX3_addBoat_17 ?_
    refine n_iload_n (i := 2) dX3_addBoat_18 rfl rfl ?_
    refine n_iadd dX3_addBoat_19 ?_
    obtain ⟨s3, hs3, h⟩ := yb_bind h
    refine p_iast hs3 (sh_173 _ _) dX3_addBoat_20 ?_
    refine n_aload_n (i := 0) dX3_addBoat_21 rfl rfl ?_
    refine p_getr fl_X3_15 (sh_172 _ _) rfl (rR_172_3 _ _) dX3_addBoat_22 ?_
    refine n_iload_n (i := 1) dX3_addBoat_25 rfl rfl ?_
    refine n_dup2 dX3_addBoat_26 rfl rfl ?_
    obtain ⟨v4, hv4, h⟩ := yb_bind h
    refine p_iald hv4 (sh_174 _ _) dX3_addBoat_27 ?_
    refine n_iload_n (i := 3) dX3_addBoat_28 rfl rfl ?_
    refine n_iadd dX3_addBoat_29 ?_
    obtain ⟨s5, hs5, h⟩ := yb_bind h
    refine p_iast hs5 (sh_174 _ _) dX3_addBoat_30 ?_
    refine n_aload_n (i := 0) dX3_addBoat_31 rfl rfl ?_
    refine n_dup dX3_addBoat_32 rfl ?_
    refine p_geti fl_X3_21 (sh_172 _ _) rfl dX3_addBoat_33 ?_
    refine n_iconst (1 : Int32) dX3_addBoat_36 ic_1 ?_
    refine n_iadd dX3_addBoat_37 ?_
    obtain ⟨s6, hs6, h⟩ := yb_bind h
    refine p_puti hs6 fp_X3_21 (sh_172 _ _) rfl rfl rfl dX3_addBoat_38 ?_
    refine n_aload_n (i := 0) dX3_addBoat_41 rfl rfl ?_
    refine p_geti fl_X3_21 (sh_172 _ _) rfl dX3_addBoat_42 ?_
    cases h
    exact n_iret dX3_addBoat_45 rfl rfl (Nat.le_refl _) (Nat.le_refl _) ⟨rfl, rfl⟩
  · have h := yb_ifn c1 h
    refine n_iconst (-1 : Int32) dX3_addBoat_9 ic_m1 ?_
    cases h
    exact n_iret dX3_addBoat_10 rfl rfl (Nat.le_refl _) (Nat.le_refl _) ⟨rfl, rfl⟩
set_option maxHeartbeats 4000000 in
set_option maxRecDepth 20000 in
theorem t_X11_boat {G : yb_G} {X : List (FieldType × Nat)} {a1 : Int32} {a2 : Int32} {a3 : Int32} {s : yb_S} {out : (Int32 × yb_S)} (h : f_X11_boat a1 a2 a3 s = some out) : Ct G yX11_boat cX11_boat 4 (Option.some .int) (yb_rm 2) [.ref (yb_ad G 0), .int a1, .int a2, .int a3] (yb_mk s X) (yb_qi X out.2 out.1) := by
  refine Ct.of (own := RX11) (ini := false) (vs := [some (.ref (yb_ad G 0)), some (.int a1), some (.int a2), some (.int a3)]) ⟨rfl, by decide +kernel⟩ (fun h => by cases h) (Nat.le_of_ble_eq_true rfl) rfl ?_
  unfold f_X11_boat at h
  refine n_aload_n (i := 0) dX11_boat_0 rfl rfl ?_
  refine n_iload_n (i := 1) dX11_boat_1 rfl rfl ?_
  obtain ⟨q1, hq1, h⟩ := yb_bind h
  refine p_callVi (As := [.int a1]) (t_X11_isAhead hq1) cv_X11_309 (sh_0 _ _) rfl rfl (Nat.le_of_ble_eq_true rfl) dX11_boat_2 (yb_rok (Nat.le_of_ble_eq_true rfl) (by decide)) ⟨rfl, rfl⟩ ⟨Nat.le_refl _, Nat.le_refl _⟩ (fun k2 => ?_)
  refine n_if_eq 24 dX11_boat_5 (by decide) (fun c3 => ?_) (fun c3 => ?_)
  · have h := yb_ifp c3 h
    refine n_iconst (-1 : Int32) dX11_boat_24 ic_m1 ?_
    cases h
    exact n_iret dX11_boat_25 rfl rfl (Nat.le_refl _) (Nat.le_refl _) ⟨rfl, rfl⟩
  · have h := yb_ifn c3 h
    refine n_iload_n (i := 2) dX11_boat_8 rfl rfl ?_
    refine n_if_lt 24 dX11_boat_9 (by decide) (fun c4 => ?_) (fun c4 => ?_)
    · have h := yb_ifp c4 h
      refine n_iconst (-1 : Int32) dX11_boat_24 ic_m1 ?_
      cases h
      exact n_iret dX11_boat_25 rfl rfl (Nat.le_refl _) (Nat.le_refl _) ⟨rfl, rfl⟩
    · have h := yb_ifn c4 h
      refine n_iload_n (i := 2) dX11_boat_12 rfl rfl ?_
      refine n_iload_n (i := 3) dX11_boat_13 rfl rfl ?_
      refine n_icmp_gt 24 dX11_boat_14 (by decide) (fun c5 => ?_) (fun c5 => ?_)
      · have h := yb_ifp c5 h
        refine n_iconst (-1 : Int32) dX11_boat_24 ic_m1 ?_
        cases h
        exact n_iret dX11_boat_25 rfl rfl (Nat.le_refl _) (Nat.le_refl _) ⟨rfl, rfl⟩
      · have h := yb_ifn c5 h
        refine n_iload_n (i := 3) dX11_boat_17 rfl rfl ?_
        refine n_sipush (200 : Int32) dX11_boat_18 sp_200 ?_
        refine n_icmp_le 26 dX11_boat_21 (by decide) (fun c6 => ?_) (fun c6 => ?_)
        · have h := yb_ifp c6 h
          refine n_aload_n (i := 0) dX11_boat_26 rfl rfl ?_
          refine p_getr fl_X11_49 (sh_0 _ _) rfl (rR_0_5 _ _) dX11_boat_27 ?_
          refine n_iload_n (i := 1) dX11_boat_30 rfl rfl ?_
          refine n_iload_n (i := 2) dX11_boat_31 rfl rfl ?_
          refine n_iload_n (i := 3) dX11_boat_32 rfl rfl ?_
          obtain ⟨q7, hq7, h⟩ := yb_bind h
          refine p_callVi (As := [.int a1, .int a2, .int a3]) (t_X3_addBoat hq7) cv_X11_312 (sh_172 _ _) rfl rfl (Nat.le_of_ble_eq_true rfl) dX11_boat_33 (yb_rok (Nat.le_of_ble_eq_true rfl) (by decide)) ⟨rfl, rfl⟩ ⟨Nat.le_refl _, Nat.le_refl _⟩ (fun k8 => ?_)
          cases h
          exact n_iret dX11_boat_36 rfl rfl (Nat.le_refl _) (Nat.le_refl _) ⟨rfl, rfl⟩
        · have h := yb_ifn c6 h
          refine n_iconst (-1 : Int32) dX11_boat_24 ic_m1 ?_
          cases h
          exact n_iret dX11_boat_25 rfl rfl (Nat.le_refl _) (Nat.le_refl _) ⟨rfl, rfl⟩
set_option maxHeartbeats 4000000 in
set_option maxRecDepth 20000 in
theorem t_X11_canBeDays {G : yb_G} {X : List (FieldType × Nat)} {a0 : Int32} {s : yb_S} {out : Int32} (h : f_X11_canBeDays a0 s = some out) : Ct G yX11_canBeDays cX11_canBeDays 1 (Option.some .boolean) (yb_rm 1) [.int a0] (yb_mk s X) (yb_qi X s out) := by
  refine Ct.of (own := RX11) (ini := false) (vs := [some (.int a0)]) ⟨rfl, by decide +kernel⟩ (fun h => by cases h) (Nat.le_of_ble_eq_true rfl) rfl ?_
  unfold f_X11_canBeDays at h
  refine n_iload_n (i := 0) dX11_canBeDays_0 rfl rfl ?_
  refine n_if_lt 32 dX11_canBeDays_1 (by decide) (fun c1 => ?_) (fun c1 => ?_)
  · have h := yb_ifp c1 h
    refine n_iconst (0 : Int32) dX11_canBeDays_32 ic_0 ?_
    cases h
    exact n_iret dX11_canBeDays_33 rfl (by decide) (Nat.le_refl _) (Nat.le_refl _) ⟨rfl, rfl⟩
  · have h := yb_ifn c1 h
    refine n_iload_n (i := 0) dX11_canBeDays_4 rfl rfl ?_
    refine n_sipush (1000 : Int32) dX11_canBeDays_5 sp_1000 ?_
    refine p_irem (by decide) dX11_canBeDays_8 ?_
    refine n_sipush (200 : Int32) dX11_canBeDays_9 sp_200 ?_
    refine n_icmp_gt 32 dX11_canBeDays_12 (by decide) (fun c2 => ?_) (fun c2 => ?_)
    · have h := yb_ifp c2 h
      refine n_iconst (0 : Int32) dX11_canBeDays_32 ic_0 ?_
      cases h
      exact n_iret dX11_canBeDays_33 rfl (by decide) (Nat.le_refl _) (Nat.le_refl _) ⟨rfl, rfl⟩
    · have h := yb_ifn c2 h
      refine n_iload_n (i := 0) dX11_canBeDays_15 rfl rfl ?_
      refine n_sipush (1000 : Int32) dX11_canBeDays_16 sp_1000 ?_
      refine n_idiv dX11_canBeDays_19 (by decide) ?_
      refine n_iload_n (i := 0) dX11_canBeDays_20 rfl rfl ?_
      refine n_sipush (1000 : Int32) dX11_canBeDays_21 sp_1000 ?_
      refine p_irem (by decide) dX11_canBeDays_24 ?_
      refine n_icmp_gt 32 dX11_canBeDays_25 (by decide) (fun c3 => ?_) (fun c3 => ?_)
      · have h := yb_ifp c3 h
        refine n_iconst (0 : Int32) dX11_canBeDays_32 ic_0 ?_
        cases h
        exact n_iret dX11_canBeDays_33 rfl (by decide) (Nat.le_refl _) (Nat.le_refl _) ⟨rfl, rfl⟩
      · have h := yb_ifn c3 h
        refine n_iconst (1 : Int32) dX11_canBeDays_28 ic_1 ?_
        refine n_goto 33 dX11_canBeDays_29 (by decide) ?_
        cases h
        exact n_iret dX11_canBeDays_33 rfl (by decide) (Nat.le_refl _) (Nat.le_refl _) ⟨rfl, rfl⟩
set_option maxHeartbeats 4000000 in
set_option maxRecDepth 20000 in
theorem t_X11_canBeHeads {G : yb_G} {X : List (FieldType × Nat)} {a0 : Int32} {s : yb_S} {out : Int32} (h : f_X11_canBeHeads a0 s = some out) : Ct G yX11_canBeHeads cX11_canBeHeads 1 (Option.some .boolean) (yb_rm 1) [.int a0] (yb_mk s X) (yb_qi X s out) := by
  refine Ct.of (own := RX11) (ini := false) (vs := [some (.int a0)]) ⟨rfl, by decide +kernel⟩ (fun h => by cases h) (Nat.le_of_ble_eq_true rfl) rfl ?_
  unfold f_X11_canBeHeads at h
  refine n_iload_n (i := 0) dX11_canBeHeads_0 rfl rfl ?_
  refine n_bipush (100 : Int32) dX11_canBeHeads_1 bp_100 ?_
  refine n_icmp_lt 39 dX11_canBeHeads_3 (by decide) (fun c1 => ?_) (fun c1 => ?_)
  · have h := yb_ifp c1 h
    refine n_iconst (0 : Int32) dX11_canBeHeads_39 ic_0 ?_
    cases h
    exact n_iret dX11_canBeHeads_40 rfl (by decide) (Nat.le_refl _) (Nat.le_refl _) ⟨rfl, rfl⟩
  · have h := yb_ifn c1 h
    refine n_iload_n (i := 0) dX11_canBeHeads_6 rfl rfl ?_
    refine n_sipush (999 : Int32) dX11_canBeHeads_7 sp_999 ?_
    refine n_icmp_gt 39 dX11_canBeHeads_10 (by decide) (fun c2 => ?_) (fun c2 => ?_)
    · have h := yb_ifp c2 h
      refine n_iconst (0 : Int32) dX11_canBeHeads_39 ic_0 ?_
      cases h
      exact n_iret dX11_canBeHeads_40 rfl (by decide) (Nat.le_refl _) (Nat.le_refl _) ⟨rfl, rfl⟩
    · have h := yb_ifn c2 h
      refine n_iload_n (i := 0) dX11_canBeHeads_13 rfl rfl ?_
      refine n_bipush (10 : Int32) dX11_canBeHeads_14 bp_10 ?_
      refine n_idiv dX11_canBeHeads_16 (by decide) ?_
      refine n_bipush (10 : Int32) dX11_canBeHeads_17 bp_10 ?_
      refine p_irem (by decide) dX11_canBeHeads_19 ?_
      refine n_iload_n (i := 0) dX11_canBeHeads_20 rfl rfl ?_
      refine n_bipush (100 : Int32) dX11_canBeHeads_21 bp_100 ?_
      refine n_idiv dX11_canBeHeads_23 (by decide) ?_
      refine n_icmp_gt 39 dX11_canBeHeads_24 (by decide) (fun c3 => ?_) (fun c3 => ?_)
      · have h := yb_ifp c3 h
        refine n_iconst (0 : Int32) dX11_canBeHeads_39 ic_0 ?_
        cases h
        exact n_iret dX11_canBeHeads_40 rfl (by decide) (Nat.le_refl _) (Nat.le_refl _) ⟨rfl, rfl⟩
      · have h := yb_ifn c3 h
        refine n_iload_n (i := 0) dX11_canBeHeads_27 rfl rfl ?_
        refine n_bipush (10 : Int32) dX11_canBeHeads_28 bp_10 ?_
        refine p_irem (by decide) dX11_canBeHeads_30 ?_
        refine n_iconst (1 : Int32) dX11_canBeHeads_31 ic_1 ?_
        refine n_icmp_gt 39 dX11_canBeHeads_32 (by decide) (fun c4 => ?_) (fun c4 => ?_)
        · have h := yb_ifp c4 h
          refine n_iconst (0 : Int32) dX11_canBeHeads_39 ic_0 ?_
          cases h
          exact n_iret dX11_canBeHeads_40 rfl (by decide) (Nat.le_refl _) (Nat.le_refl _) ⟨rfl, rfl⟩
        · have h := yb_ifn c4 h
          refine n_iconst (1 : Int32) dX11_canBeHeads_35 ic_1 ?_
          refine n_goto 40 dX11_canBeHeads_36 (by decide) ?_
          cases h
          exact n_iret dX11_canBeHeads_40 rfl (by decide) (Nat.le_refl _) (Nat.le_refl _) ⟨rfl, rfl⟩
set_option maxHeartbeats 4000000 in
set_option maxRecDepth 20000 in
theorem t_X11_canBeHome {G : yb_G} {X : List (FieldType × Nat)} {a0 : Int32} {s : yb_S} {out : Int32} (h : f_X11_canBeHome a0 s = some out) : Ct G yX11_canBeHome cX11_canBeHome 1 (Option.some .boolean) (yb_rm 1) [.int a0] (yb_mk s X) (yb_qi X s out) := by
  refine Ct.of (own := RX11) (ini := false) (vs := [some (.int a0)]) ⟨rfl, by decide +kernel⟩ (fun h => by cases h) (Nat.le_of_ble_eq_true rfl) rfl ?_
  unfold f_X11_canBeHome at h
  refine n_iload_n (i := 0) dX11_canBeHome_0 rfl rfl ?_
  refine n_bipush (100 : Int32) dX11_canBeHome_1 bp_100 ?_
  refine n_icmp_lt 36 dX11_canBeHome_3 (by decide) (fun c1 => ?_) (fun c1 => ?_)
  · have h := yb_ifp c1 h
    refine n_iconst (0 : Int32) dX11_canBeHome_36 ic_0 ?_
    cases h
    exact n_iret dX11_canBeHome_37 rfl (by decide) (Nat.le_refl _) (Nat.le_refl _) ⟨rfl, rfl⟩
  · have h := yb_ifn c1 h
    refine n_iload_n (i := 0) dX11_canBeHome_6 rfl rfl ?_
    refine n_sipush (999 : Int32) dX11_canBeHome_7 sp_999 ?_
    refine n_icmp_gt 36 dX11_canBeHome_10 (by decide) (fun c2 => ?_) (fun c2 => ?_)
    · have h := yb_ifp c2 h
      refine n_iconst (0 : Int32) dX11_canBeHome_36 ic_0 ?_
      cases h
      exact n_iret dX11_canBeHome_37 rfl (by decide) (Nat.le_refl _) (Nat.le_refl _) ⟨rfl, rfl⟩
    · have h := yb_ifn c2 h
      refine n_iload_n (i := 0) dX11_canBeHome_13 rfl rfl ?_
      refine n_bipush (10 : Int32) dX11_canBeHome_14 bp_10 ?_
      refine n_idiv dX11_canBeHome_16 (by decide) ?_
      refine n_bipush (10 : Int32) dX11_canBeHome_17 bp_10 ?_
      refine p_irem (by decide) dX11_canBeHome_19 ?_
      refine n_iconst (1 : Int32) dX11_canBeHome_20 ic_1 ?_
      refine n_icmp_gt 36 dX11_canBeHome_21 (by decide) (fun c3 => ?_) (fun c3 => ?_)
      · have h := yb_ifp c3 h
        refine n_iconst (0 : Int32) dX11_canBeHome_36 ic_0 ?_
        cases h
        exact n_iret dX11_canBeHome_37 rfl (by decide) (Nat.le_refl _) (Nat.le_refl _) ⟨rfl, rfl⟩
      · have h := yb_ifn c3 h
        refine n_iload_n (i := 0) dX11_canBeHome_24 rfl rfl ?_
        refine n_bipush (10 : Int32) dX11_canBeHome_25 bp_10 ?_
        refine p_irem (by decide) dX11_canBeHome_27 ?_
        refine n_iconst (4 : Int32) dX11_canBeHome_28 ic_4 ?_
        refine n_icmp_gt 36 dX11_canBeHome_29 (by decide) (fun c4 => ?_) (fun c4 => ?_)
        · have h := yb_ifp c4 h
          refine n_iconst (0 : Int32) dX11_canBeHome_36 ic_0 ?_
          cases h
          exact n_iret dX11_canBeHome_37 rfl (by decide) (Nat.le_refl _) (Nat.le_refl _) ⟨rfl, rfl⟩
        · have h := yb_ifn c4 h
          refine n_iconst (1 : Int32) dX11_canBeHome_32 ic_1 ?_
          refine n_goto 37 dX11_canBeHome_33 (by decide) ?_
          cases h
          exact n_iret dX11_canBeHome_37 rfl (by decide) (Nat.le_refl _) (Nat.le_refl _) ⟨rfl, rfl⟩
set_option maxHeartbeats 4000000 in
set_option maxRecDepth 20000 in
theorem t_X11_canBeKind {G : yb_G} {X : List (FieldType × Nat)} {a0 : Int32} {s : yb_S} {out : Int32} (h : f_X11_canBeKind a0 s = some out) : Ct G yX11_canBeKind cX11_canBeKind 1 (Option.some .boolean) (yb_rm 1) [.int a0] (yb_mk s X) (yb_qi X s out) := by
  refine Ct.of (own := RX11) (ini := false) (vs := [some (.int a0)]) ⟨rfl, by decide +kernel⟩ (fun h => by cases h) (Nat.le_of_ble_eq_true rfl) rfl ?_
  unfold f_X11_canBeKind at h
  refine n_iload_n (i := 0) dX11_canBeKind_0 rfl rfl ?_
  refine n_if_lt 36 dX11_canBeKind_1 (by decide) (fun c1 => ?_) (fun c1 => ?_)
  · have h := yb_ifp c1 h
    refine n_iconst (0 : Int32) dX11_canBeKind_36 ic_0 ?_
    cases h
    exact n_iret dX11_canBeKind_37 rfl (by decide) (Nat.le_refl _) (Nat.le_refl _) ⟨rfl, rfl⟩
  · have h := yb_ifn c1 h
    refine n_iload_n (i := 0) dX11_canBeKind_4 rfl rfl ?_
    refine n_bipush (100 : Int32) dX11_canBeKind_5 bp_100 ?_
    refine n_idiv dX11_canBeKind_7 (by decide) ?_
    refine n_iconst (3 : Int32) dX11_canBeKind_8 ic_3 ?_
    refine n_icmp_gt 36 dX11_canBeKind_9 (by decide) (fun c2 => ?_) (fun c2 => ?_)
    · have h := yb_ifp c2 h
      refine n_iconst (0 : Int32) dX11_canBeKind_36 ic_0 ?_
      cases h
      exact n_iret dX11_canBeKind_37 rfl (by decide) (Nat.le_refl _) (Nat.le_refl _) ⟨rfl, rfl⟩
    · have h := yb_ifn c2 h
      refine n_iload_n (i := 0) dX11_canBeKind_12 rfl rfl ?_
      refine n_bipush (10 : Int32) dX11_canBeKind_13 bp_10 ?_
      refine n_idiv dX11_canBeKind_15 (by decide) ?_
      refine n_bipush (10 : Int32) dX11_canBeKind_16 bp_10 ?_
      refine p_irem (by decide) dX11_canBeKind_18 ?_
      refine n_iconst (5 : Int32) dX11_canBeKind_19 ic_5 ?_
      refine n_icmp_gt 36 dX11_canBeKind_20 (by decide) (fun c3 => ?_) (fun c3 => ?_)
      · have h := yb_ifp c3 h
        refine n_iconst (0 : Int32) dX11_canBeKind_36 ic_0 ?_
        cases h
        exact n_iret dX11_canBeKind_37 rfl (by decide) (Nat.le_refl _) (Nat.le_refl _) ⟨rfl, rfl⟩
      · have h := yb_ifn c3 h
        refine n_iload_n (i := 0) dX11_canBeKind_23 rfl rfl ?_
        refine n_bipush (10 : Int32) dX11_canBeKind_24 bp_10 ?_
        refine p_irem (by decide) dX11_canBeKind_26 ?_
        refine n_bipush (6 : Int32) dX11_canBeKind_27 bp_6 ?_
        refine n_icmp_ge 36 dX11_canBeKind_29 (by decide) (fun c4 => ?_) (fun c4 => ?_)
        · have h := yb_ifp c4 h
          refine n_iconst (0 : Int32) dX11_canBeKind_36 ic_0 ?_
          cases h
          exact n_iret dX11_canBeKind_37 rfl (by decide) (Nat.le_refl _) (Nat.le_refl _) ⟨rfl, rfl⟩
        · have h := yb_ifn c4 h
          refine n_iconst (1 : Int32) dX11_canBeKind_32 ic_1 ?_
          refine n_goto 37 dX11_canBeKind_33 (by decide) ?_
          cases h
          exact n_iret dX11_canBeKind_37 rfl (by decide) (Nat.le_refl _) (Nat.le_refl _) ⟨rfl, rfl⟩
set_option maxHeartbeats 4000000 in
set_option maxRecDepth 20000 in
theorem t_X11_canBeSought {G : yb_G} {X : List (FieldType × Nat)} {a0 : Int32} {a1 : Int32} {s : yb_S} {out : Int32} (h : f_X11_canBeSought a0 a1 s = some out) : Ct G yX11_canBeSought cX11_canBeSought 2 (Option.some .boolean) (yb_rm 1) [.int a0, .int a1] (yb_mk s X) (yb_qi X s out) := by
  refine Ct.of (own := RX11) (ini := false) (vs := [some (.int a0), some (.int a1)]) ⟨rfl, by decide +kernel⟩ (fun h => by cases h) (Nat.le_of_ble_eq_true rfl) rfl ?_
  unfold f_X11_canBeSought at h
  refine n_iload_n (i := 0) dX11_canBeSought_0 rfl rfl ?_
  refine n_if_lt 25 dX11_canBeSought_1 (by decide) (fun c1 => ?_) (fun c1 => ?_)
  · have h := yb_ifp c1 h
    refine n_iconst (0 : Int32) dX11_canBeSought_25 ic_0 ?_
    cases h
    exact n_iret dX11_canBeSought_26 rfl (by decide) (Nat.le_refl _) (Nat.le_refl _) ⟨rfl, rfl⟩
  · have h := yb_ifn c1 h
    refine n_iload_n (i := 0) dX11_canBeSought_4 rfl rfl ?_
    refine n_ldcw (999999 : Int32) k_X11_397 dX11_canBeSought_5 ?_
    refine n_icmp_gt 25 dX11_canBeSought_8 (by decide) (fun c2 => ?_) (fun c2 => ?_)
    · have h := yb_ifp c2 h
      refine n_iconst (0 : Int32) dX11_canBeSought_25 ic_0 ?_
      cases h
      exact n_iret dX11_canBeSought_26 rfl (by decide) (Nat.le_refl _) (Nat.le_refl _) ⟨rfl, rfl⟩
    · have h := yb_ifn c2 h
      refine n_iload_n (i := 1) dX11_canBeSought_11 rfl rfl ?_
      refine n_if_lt 25 dX11_canBeSought_12 (by decide) (fun c3 => ?_) (fun c3 => ?_)
      · have h := yb_ifp c3 h
        refine n_iconst (0 : Int32) dX11_canBeSought_25 ic_0 ?_
        cases h
        exact n_iret dX11_canBeSought_26 rfl (by decide) (Nat.le_refl _) (Nat.le_refl _) ⟨rfl, rfl⟩
      · have h := yb_ifn c3 h
        refine n_iload_n (i := 1) dX11_canBeSought_15 rfl rfl ?_
        refine n_bipush (120 : Int32) dX11_canBeSought_16 bp_120 ?_
        refine n_icmp_gt 25 dX11_canBeSought_18 (by decide) (fun c4 => ?_) (fun c4 => ?_)
        · have h := yb_ifp c4 h
          refine n_iconst (0 : Int32) dX11_canBeSought_25 ic_0 ?_
          cases h
          exact n_iret dX11_canBeSought_26 rfl (by decide) (Nat.le_refl _) (Nat.le_refl _) ⟨rfl, rfl⟩
        · have h := yb_ifn c4 h
          refine n_iconst (1 : Int32) dX11_canBeSought_21 ic_1 ?_
          refine n_goto 26 dX11_canBeSought_22 (by decide) ?_
          cases h
          exact n_iret dX11_canBeSought_26 rfl (by decide) (Nat.le_refl _) (Nat.le_refl _) ⟨rfl, rfl⟩
set_option maxHeartbeats 4000000 in
set_option maxRecDepth 20000 in
theorem t_X11_hasEnded {G : yb_G} {X : List (FieldType × Nat)} {a1 : Int32} {s : yb_S} {out : Int32} (h : f_X11_hasEnded a1 s = some out) : Ct G yX11_hasEnded cX11_hasEnded 2 (Option.some .boolean) (yb_rm 1) [.ref (yb_ad G 0), .int a1] (yb_mk s X) (yb_qi X s out) := by
  refine Ct.of (own := RX11) (ini := false) (vs := [some (.ref (yb_ad G 0)), some (.int a1)]) ⟨rfl, by decide +kernel⟩ (fun h => by cases h) (Nat.le_of_ble_eq_true rfl) rfl ?_
  unfold f_X11_hasEnded at h
  refine n_iload_n (i := 1) dX11_hasEnded_0 rfl rfl ?_
  refine n_if_lt 19 dX11_hasEnded_1 (by decide) (fun c1 => ?_) (fun c1 => ?_)
  · have h := yb_ifp c1 h
    refine n_iconst (0 : Int32) dX11_hasEnded_19 ic_0 ?_
    cases h
    exact n_iret dX11_hasEnded_20 rfl (by decide) (Nat.le_refl _) (Nat.le_refl _) ⟨rfl, rfl⟩
  · have h := yb_ifn c1 h
    refine n_iload_n (i := 1) dX11_hasEnded_4 rfl rfl ?_
    refine n_aload_n (i := 0) dX11_hasEnded_5 rfl rfl ?_
    refine p_getr fl_X11_10 (sh_0 _ _) rfl (rR_0_0 _ _) dX11_hasEnded_6 ?_
    refine p_geti fl_X11_104 (sh_1 _ _) rfl dX11_hasEnded_9 ?_
    refine n_icmp_ge 19 dX11_hasEnded_12 (by decide) (fun c2 => ?_) (fun c2 => ?_)
    · have h := yb_ifp c2 h
      refine n_iconst (0 : Int32) dX11_hasEnded_19 ic_0 ?_
      cases h
      exact n_iret dX11_hasEnded_20 rfl (by decide) (Nat.le_refl _) (Nat.le_refl _) ⟨rfl, rfl⟩
    · have h := yb_ifn c2 h
      refine n_iconst (1 : Int32) dX11_hasEnded_15 ic_1 ?_
      refine n_goto 20 dX11_hasEnded_16 (by decide) ?_
      cases h
      exact n_iret dX11_hasEnded_20 rfl (by decide) (Nat.le_refl _) (Nat.le_refl _) ⟨rfl, rfl⟩
set_option maxHeartbeats 4000000 in
set_option maxRecDepth 20000 in
theorem t_X0_stateOn {G : yb_G} {X : List (FieldType × Nat)} {a1 : Int32} {a2 : Int32} {s : yb_S} {out : Int32} (h : f_X0_stateOn a1 a2 s = some out) : Ct G yX0_stateOn cX0_stateOn 3 (Option.some .int) (yb_rm 1) [.ref (yb_ad G 137), .int a1, .int a2] (yb_mk s X) (yb_qi X s out) := by
  refine Ct.of (own := RX0) (ini := false) (vs := [some (.ref (yb_ad G 137)), some (.int a1), some (.int a2)]) ⟨rfl, by decide +kernel⟩ (fun h => by cases h) (Nat.le_of_ble_eq_true rfl) rfl ?_
  unfold f_X0_stateOn at h
  refine n_aload_n (i := 0) dX0_stateOn_0 rfl rfl ?_
  refine p_getr fl_X0_11 (sh_137 _ _) rfl (rR_137_0 _ _) dX0_stateOn_1 ?_
  refine n_iload_n (i := 1) dX0_stateOn_4 rfl rfl ?_
  obtain ⟨r1, hr1, h⟩ := yb_bind h
  refine p_aald hr1 (sh_138 _ _) (by decide) rfl (rF_138 _ _) dX0_stateOn_5 ?_
  refine n_iload_n (i := 2) dX0_stateOn_6 rfl rfl ?_
  obtain ⟨v2, hv2, h⟩ := yb_bind h
  refine p_iald hv2 (shF_138 hr1 _ _) dX0_stateOn_7 ?_
  by_cases c3 : v2 = (100 : Int32)
  · have h := yb_ifp c3 h
    refine n_lookup (off := 28) 36 dX0_stateOn_8 (by decide) (by rw [c3]; decide) (by decide) ?_
    refine n_iconst (0 : Int32) dX0_stateOn_36 ic_0 ?_
    cases h
    exact n_iret dX0_stateOn_37 rfl rfl (Nat.le_refl _) (Nat.le_refl _) ⟨rfl, rfl⟩
  · have h := yb_ifn c3 h
    by_cases c4 : v2 = (101 : Int32)
    · have h := yb_ifp c4 h
      refine n_lookup (off := 30) 38 dX0_stateOn_8 (by decide) (by rw [c4]; decide) (by decide) ?_
      refine n_iconst (2 : Int32) dX0_stateOn_38 ic_2 ?_
      cases h
      exact n_iret dX0_stateOn_39 rfl rfl (Nat.le_refl _) (Nat.le_refl _) ⟨rfl, rfl⟩
    · have h := yb_ifn c4 h
      refine n_lookup (off := 32) 40 dX0_stateOn_8 (by decide) ((lv_osw c3 (by decide)).trans ((lv_osw c4 (by decide)).trans rfl)) (by decide) ?_
      refine n_iconst (1 : Int32) dX0_stateOn_40 ic_1 ?_
      cases h
      exact n_iret dX0_stateOn_41 rfl rfl (Nat.le_refl _) (Nat.le_refl _) ⟨rfl, rfl⟩
set_option maxHeartbeats 4000000 in
set_option maxRecDepth 20000 in
theorem t_l_X0_sumOfTowns_4 {G : yb_G} {X : List (FieldType × Nat)} {x1 : Int32} {s : yb_S} {out : Int32} : ∀ (k0 : Nat) (x2 : Int32) (x3 : Int32), l_X0_sumOfTowns_4 x1 s k0 x2 x3 = some out → Rn G RX0 cX0_sumOfTowns 4 (Option.some .int) false (yb_rm 1) (yb_qi X s out) 0 0 4 [some (.ref (yb_ad G 137)), some (.int x1), some (.int x2), some (.int x3)] [] (yb_mk s X) := by
  intro k0
  induction k0 with
  | zero => intro x2 x3 h; cases h
  | succ k0 ih =>
    intro x2 x3 h
    have h : f_X0_sumOfTowns_4 (fun x2 x3 => l_X0_sumOfTowns_4 x1 s k0 x2 x3) x1 s x2 x3 = some out := h
    have hrc4 := ih
    unfold f_X0_sumOfTowns_4 at h
    refine n_iload_n (i := 3) dX0_sumOfTowns_4 rfl rfl ?_
    refine n_bipush (8 : Int32) dX0_sumOfTowns_5 bp_8 ?_
    refine n_icmp_ge 27 dX0_sumOfTowns_7 (by decide) (fun c1 => ?_) (fun c1 => ?_)
    · have h := yb_ifp c1 h
      refine n_iload_n (i := 2) dX0_sumOfTowns_27 rfl rfl ?_
      cases h
      exact n_iret dX0_sumOfTowns_28 rfl rfl (Nat.le_refl _) (Nat.le_refl _) ⟨rfl, rfl⟩
    · have h := yb_ifn c1 h
      refine n_iload_n (i := 2) dX0_sumOfTowns_10 rfl rfl ?_
      refine n_aload_n (i := 0) dX0_sumOfTowns_11 rfl rfl ?_
      refine p_getr fl_X0_16 (sh_137 _ _) rfl (rR_137_1 _ _) dX0_sumOfTowns_12 ?_
      refine n_iload_n (i := 3) dX0_sumOfTowns_15 rfl rfl ?_
      obtain ⟨r2, hr2, h⟩ := yb_bind h
      refine p_aald hr2 (sh_163 _ _) (by decide) rfl (rF_163 _ _) dX0_sumOfTowns_16 ?_
      refine n_iload_n (i := 1) dX0_sumOfTowns_17 rfl rfl ?_
      obtain ⟨v3, hv3, h⟩ := yb_bind h
      refine p_iald hv3 (shF_163 hr2 _ _) dX0_sumOfTowns_18 ?_
      refine n_iadd dX0_sumOfTowns_19 ?_
      refine n_istore_n (i := 2) (vs' := [some (.ref (yb_ad G 137)), some (.int x1), some (.int (x2 + v3)), some (.int x3)]) dX0_sumOfTowns_20 rfl (Nat.le_of_ble_eq_true rfl) rfl rfl ?_
      refine n_iinc (vs' := [some (.ref (yb_ad G 137)), some (.int x1), some (.int (x2 + v3)), some (.int (x3 + (1 : Int32)))]) dX0_sumOfTowns_21 rfl (ii_1 _) (Nat.le_of_ble_eq_true rfl) rfl rfl ?_
      refine n_goto 4 dX0_sumOfTowns_24 (by decide) ?_
      exact p_jump (hrc4 (x2 + v3) (x3 + (1 : Int32)) h) (And.intro rfl (And.intro rfl (And.intro rfl (And.intro rfl trivial))))
set_option maxHeartbeats 4000000 in
set_option maxRecDepth 20000 in
theorem tl_X0_sumOfTowns_4 {G : yb_G} {X : List (FieldType × Nat)} {x1 : Int32} {s : yb_S} {out : Int32} {x2 : Int32} {x3 : Int32} (h : l_X0_sumOfTowns_4 x1 s yb_N x2 x3 = some out) : Rn G RX0 cX0_sumOfTowns 4 (Option.some .int) false (yb_rm 1) (yb_qi X s out) 0 0 4 [some (.ref (yb_ad G 137)), some (.int x1), some (.int x2), some (.int x3)] [] (yb_mk s X) := t_l_X0_sumOfTowns_4 _ _ _ h
set_option maxHeartbeats 4000000 in
set_option maxRecDepth 20000 in
theorem t_X0_sumOfTowns {G : yb_G} {X : List (FieldType × Nat)} {a1 : Int32} {s : yb_S} {out : Int32} (h : f_X0_sumOfTowns a1 s = some out) : Ct G yX0_sumOfTowns cX0_sumOfTowns 4 (Option.some .int) (yb_rm 1) [.ref (yb_ad G 137), .int a1] (yb_mk s X) (yb_qi X s out) := by
  refine Ct.of (own := RX0) (ini := false) (vs := [some (.ref (yb_ad G 137)), some (.int a1), none, none]) ⟨rfl, by decide +kernel⟩ (fun h => by cases h) (Nat.le_of_ble_eq_true rfl) rfl ?_
  unfold f_X0_sumOfTowns at h
  refine n_iconst (0 : Int32) dX0_sumOfTowns_0 ic_0 ?_
  refine n_istore_n (i := 2) (vs' := [some (.ref (yb_ad G 137)), some (.int a1), some (.int (0 : Int32)), none]) dX0_sumOfTowns_1 rfl (Nat.le_of_ble_eq_true rfl) rfl rfl ?_
  refine n_iconst (0 : Int32) dX0_sumOfTowns_2 ic_0 ?_
  refine n_istore_n (i := 3) (vs' := [some (.ref (yb_ad G 137)), some (.int a1), some (.int (0 : Int32)), some (.int (0 : Int32))]) dX0_sumOfTowns_3 rfl (Nat.le_of_ble_eq_true rfl) rfl rfl ?_
  exact p_jump (tl_X0_sumOfTowns_4 h) (And.intro rfl (And.intro rfl (And.intro rfl (And.intro rfl trivial))))
set_option maxHeartbeats 4000000 in
set_option maxRecDepth 20000 in
theorem tj_X0_numberOf_21_65 {G : yb_G} {X : List (FieldType × Nat)} {rc17 : (Int32 → Int32 → Option Int32)} {x1 : Int32} {x2 : Int32} {x4 : Int32} {x5 : Int32} {s : yb_S} {out : Int32} (hrc17 : ∀ (x4' : Int32) (x5' : Int32), rc17 x4' x5' = some out → Rn G RX0 cX0_numberOf 6 (Option.some .int) false (yb_rm 2) (yb_qi X s out) 0 0 17 [some (.ref (yb_ad G 137)), some (.int x1), some (.int x2), some (.ref (yb_ad G 21)), some (.int x4'), some (.int x5')] [] (yb_mk s X)) (h : j_X0_numberOf_21_65 rc17 x1 x2 x4 x5 s = some out) : Rn G RX0 cX0_numberOf 6 (Option.some .int) false (yb_rm 2) (yb_qi X s out) 0 0 65 [some (.ref (yb_ad G 137)), some (.int x1), some (.int x2), some (.ref (yb_ad G 21)), some (.int x4), some (.int x5)] [] (yb_mk s X) := by
  unfold j_X0_numberOf_21_65 at h
  refine n_iinc (vs' := [some (.ref (yb_ad G 137)), some (.int x1), some (.int x2), some (.ref (yb_ad G 21)), some (.int x4), some (.int (x5 + (1 : Int32)))]) dX0_numberOf_65 rfl (ii_1 _) (Nat.le_of_ble_eq_true rfl) rfl rfl ?_
  refine n_goto 17 dX0_numberOf_68 (by decide) ?_
  exact p_jump (hrc17 x4 (x5 + (1 : Int32)) h) (And.intro rfl (And.intro rfl (And.intro rfl (And.intro rfl (And.intro rfl (And.intro rfl trivial))))))
set_option maxHeartbeats 4000000 in
set_option maxRecDepth 20000 in
theorem tj_X0_numberOf_21_53 {G : yb_G} {X : List (FieldType × Nat)} {rc17 : (Int32 → Int32 → Option Int32)} {x1 : Int32} {x2 : Int32} {x4 : Int32} {x5 : Int32} {s : yb_S} {out : Int32} (hrc17 : ∀ (x4' : Int32) (x5' : Int32), rc17 x4' x5' = some out → Rn G RX0 cX0_numberOf 6 (Option.some .int) false (yb_rm 2) (yb_qi X s out) 0 0 17 [some (.ref (yb_ad G 137)), some (.int x1), some (.int x2), some (.ref (yb_ad G 21)), some (.int x4'), some (.int x5')] [] (yb_mk s X)) (h : j_X0_numberOf_21_53 rc17 x1 x2 x4 x5 s = some out) : Rn G RX0 cX0_numberOf 6 (Option.some .int) false (yb_rm 2) (yb_qi X s out) 0 0 53 [some (.ref (yb_ad G 137)), some (.int x1), some (.int x2), some (.ref (yb_ad G 21)), some (.int x4), some (.int x5)] [] (yb_mk s X) := by
  unfold j_X0_numberOf_21_53 at h
  refine n_iload dX0_numberOf_53 rfl ?_
  refine n_aload_n (i := 3) dX0_numberOf_55 rfl rfl ?_
  refine p_getr fl_X0_65 (sh_21 _ _) rfl (rR_21_1 _ _) dX0_numberOf_56 ?_
  refine n_iload dX0_numberOf_59 rfl ?_
  obtain ⟨v6, hv6, h⟩ := yb_bind h
  refine p_iald hv6 (sh_22 _ _) dX0_numberOf_61 ?_
  refine n_iadd dX0_numberOf_62 ?_
  refine n_istore (i := 4) (vs' := [some (.ref (yb_ad G 137)), some (.int x1), some (.int x2), some (.ref (yb_ad G 21)), some (.int (x4 + v6)), some (.int x5)]) dX0_numberOf_63 (Nat.le_of_ble_eq_true rfl) rfl rfl ?_
  exact p_jump (tj_X0_numberOf_21_65 hrc17 h) (And.intro rfl (And.intro rfl (And.intro rfl (And.intro rfl (And.intro rfl (And.intro rfl trivial))))))
set_option maxHeartbeats 4000000 in
set_option maxRecDepth 20000 in
theorem t_l_X0_numberOf_21_17 {G : yb_G} {X : List (FieldType × Nat)} {x1 : Int32} {x2 : Int32} {s : yb_S} {out : Int32} : ∀ (k0 : Nat) (x4 : Int32) (x5 : Int32), l_X0_numberOf_21_17 x1 x2 s k0 x4 x5 = some out → Rn G RX0 cX0_numberOf 6 (Option.some .int) false (yb_rm 2) (yb_qi X s out) 0 0 17 [some (.ref (yb_ad G 137)), some (.int x1), some (.int x2), some (.ref (yb_ad G 21)), some (.int x4), some (.int x5)] [] (yb_mk s X) := by
  intro k0
  induction k0 with
  | zero => intro x4 x5 h; cases h
  | succ k0 ih =>
    intro x4 x5 h
    have h : f_X0_numberOf_21_17 (fun x4 x5 => l_X0_numberOf_21_17 x1 x2 s k0 x4 x5) x1 x2 s x4 x5 = some out := h
    have hrc17 := ih
    unfold f_X0_numberOf_21_17 at h
    refine n_iload dX0_numberOf_17 rfl ?_
    refine n_aload_n (i := 3) dX0_numberOf_19 rfl rfl ?_
    refine p_geti fl_X0_29 (sh_21 _ _) rfl dX0_numberOf_20 ?_
    refine n_icmp_ge 71 dX0_numberOf_23 (by decide) (fun c2 => ?_) (fun c2 => ?_)
    · have h := yb_ifp c2 h
      refine n_iload dX0_numberOf_71 rfl ?_
      cases h
      exact n_iret dX0_numberOf_73 rfl rfl (Nat.le_refl _) (Nat.le_refl _) ⟨rfl, rfl⟩
    · have h := yb_ifn c2 h
      refine n_aload_n (i := 3) dX0_numberOf_26 rfl rfl ?_
      refine p_getr fl_X0_55 (sh_21 _ _) rfl (rR_21_11 _ _) dX0_numberOf_27 ?_
      refine n_iload dX0_numberOf_30 rfl ?_
      obtain ⟨v3, hv3, h⟩ := yb_bind h
      refine p_iald hv3 (sh_32 _ _) dX0_numberOf_32 ?_
      refine n_iload_n (i := 1) dX0_numberOf_33 rfl rfl ?_
      refine n_icmp_gt 65 dX0_numberOf_34 (by decide) (fun c4 => ?_) (fun c4 => ?_)
      · have h := yb_ifp c4 h
        exact p_jump (tj_X0_numberOf_21_65 hrc17 h) (And.intro rfl (And.intro rfl (And.intro rfl (And.intro rfl (And.intro rfl (And.intro rfl trivial))))))
      · have h := yb_ifn c4 h
        refine n_iload_n (i := 2) dX0_numberOf_37 rfl rfl ?_
        refine n_iconst (3 : Int32) dX0_numberOf_38 ic_3 ?_
        refine n_icmp_eq 53 dX0_numberOf_39 (by decide) (fun c5 => ?_) (fun c5 => ?_)
        · have h := yb_ifp c5 h
          exact p_jump (tj_X0_numberOf_21_53 hrc17 h) (And.intro rfl (And.intro rfl (And.intro rfl (And.intro rfl (And.intro rfl (And.intro rfl trivial))))))
        · have h := yb_ifn c5 h
          refine n_aload_n (i := 0) dX0_numberOf_42 rfl rfl ?_
          refine n_iload dX0_numberOf_43 rfl ?_
          refine n_iload_n (i := 1) dX0_numberOf_45 rfl rfl ?_
          obtain ⟨q7, hq7, h⟩ := yb_bind h
          refine p_callVi (As := [.int x5, .int x1]) (t_X0_stateOn hq7) cv_X0_61 (sh_137 _ _) rfl rfl (Nat.le_of_ble_eq_true rfl) dX0_numberOf_46 (yb_rok (Nat.le_of_ble_eq_true rfl) (by decide)) ⟨rfl, rfl⟩ ⟨Nat.le_refl _, Nat.le_refl _⟩ (fun k8 => ?_)
          refine n_iload_n (i := 2) dX0_numberOf_49 rfl rfl ?_
          refine n_icmp_ne 65 dX0_numberOf_50 (by decide) (fun c9 => ?_) (fun c9 => ?_)
          · have h := yb_ifn c9 h
            exact p_jump (tj_X0_numberOf_21_65 hrc17 h) (And.intro rfl (And.intro rfl (And.intro rfl (And.intro rfl (And.intro rfl (And.intro rfl trivial))))))
          · have h := yb_ifp c9 h
            exact p_jump (tj_X0_numberOf_21_53 hrc17 h) (And.intro rfl (And.intro rfl (And.intro rfl (And.intro rfl (And.intro rfl (And.intro rfl trivial))))))
set_option maxHeartbeats 4000000 in
set_option maxRecDepth 20000 in
theorem tl_X0_numberOf_21_17 {G : yb_G} {X : List (FieldType × Nat)} {x1 : Int32} {x2 : Int32} {s : yb_S} {out : Int32} {x4 : Int32} {x5 : Int32} (h : l_X0_numberOf_21_17 x1 x2 s yb_N x4 x5 = some out) : Rn G RX0 cX0_numberOf 6 (Option.some .int) false (yb_rm 2) (yb_qi X s out) 0 0 17 [some (.ref (yb_ad G 137)), some (.int x1), some (.int x2), some (.ref (yb_ad G 21)), some (.int x4), some (.int x5)] [] (yb_mk s X) := t_l_X0_numberOf_21_17 _ _ _ h
set_option maxHeartbeats 4000000 in
set_option maxRecDepth 20000 in
theorem t_X0_numberOf_21 {G : yb_G} {X : List (FieldType × Nat)} {a1 : Int32} {a2 : Int32} {s : yb_S} {out : Int32} (h : f_X0_numberOf_21 a1 a2 s = some out) : Ct G yX0_numberOf cX0_numberOf 6 (Option.some .int) (yb_rm 2) [.ref (yb_ad G 137), .int a1, .int a2, .ref (yb_ad G 21)] (yb_mk s X) (yb_qi X s out) := by
  refine Ct.of (own := RX0) (ini := false) (vs := [some (.ref (yb_ad G 137)), some (.int a1), some (.int a2), some (.ref (yb_ad G 21)), none, none]) ⟨rfl, by decide +kernel⟩ (fun h => by cases h) (Nat.le_of_ble_eq_true rfl) rfl ?_
  unfold f_X0_numberOf_21 at h
  refine n_iload_n (i := 2) dX0_numberOf_0 rfl rfl ?_
  refine n_iconst (4 : Int32) dX0_numberOf_1 ic_4 ?_
  refine n_icmp_ne 11 dX0_numberOf_2 (by decide) (fun c1 => ?_) (fun c1 => ?_)
  · have h := yb_ifn c1 h
    refine n_iconst (0 : Int32) dX0_numberOf_11 ic_0 ?_
    refine n_istore (i := 4) (vs' := [some (.ref (yb_ad G 137)), some (.int a1), some (.int a2), some (.ref (yb_ad G 21)), some (.int (0 : Int32)), none]) dX0_numberOf_12 (Nat.le_of_ble_eq_true rfl) rfl rfl ?_
    refine n_iconst (0 : Int32) dX0_numberOf_14 ic_0 ?_
    refine n_istore (i := 5) (vs' := [some (.ref (yb_ad G 137)), some (.int a1), some (.int a2), some (.ref (yb_ad G 21)), some (.int (0 : Int32)), some (.int (0 : Int32))]) dX0_numberOf_15 (Nat.le_of_ble_eq_true rfl) rfl rfl ?_
    exact p_jump (tl_X0_numberOf_21_17 h) (And.intro rfl (And.intro rfl (And.intro rfl (And.intro rfl (And.intro rfl (And.intro rfl trivial))))))
  · have h := yb_ifp c1 h
    refine n_aload_n (i := 0) dX0_numberOf_5 rfl rfl ?_
    refine n_iload_n (i := 1) dX0_numberOf_6 rfl rfl ?_
    obtain ⟨q10, hq10, h⟩ := yb_bind h
    refine p_callVi (As := [.int a1]) (t_X0_sumOfTowns hq10) cv_X0_58 (sh_137 _ _) rfl rfl (Nat.le_of_ble_eq_true rfl) dX0_numberOf_7 (yb_rok (Nat.le_of_ble_eq_true rfl) (by decide)) ⟨rfl, rfl⟩ ⟨Nat.le_refl _, Nat.le_refl _⟩ (fun k11 => ?_)
    cases h
    exact n_iret dX0_numberOf_10 rfl rfl (Nat.le_refl _) (Nat.le_refl _) ⟨rfl, rfl⟩
set_option maxHeartbeats 4000000 in
set_option maxRecDepth 20000 in
theorem t_X0_altered_21 {G : yb_G} {X : List (FieldType × Nat)} {a1 : Int32} {a2 : Int32} {a3 : Int32} {a4 : Int32} {s : yb_S} {out : Int32} (h : f_X0_altered_21 a1 a2 a3 a4 s = some out) : Ct G yX0_altered cX0_altered 7 (Option.some .int) (yb_rm 3) [.ref (yb_ad G 137), .int a1, .int a2, .int a3, .int a4, .ref (yb_ad G 21)] (yb_mk s X) (yb_qi X s out) := by
  refine Ct.of (own := RX0) (ini := false) (vs := [some (.ref (yb_ad G 137)), some (.int a1), some (.int a2), some (.int a3), some (.int a4), some (.ref (yb_ad G 21)), none]) ⟨rfl, by decide +kernel⟩ (fun h => by cases h) (Nat.le_of_ble_eq_true rfl) rfl ?_
  unfold f_X0_altered_21 at h
  refine n_aload_n (i := 0) dX0_altered_0 rfl rfl ?_
  refine n_iload_n (i := 1) dX0_altered_1 rfl rfl ?_
  refine n_iload_n (i := 2) dX0_altered_2 rfl rfl ?_
  refine n_aload dX0_altered_3 rfl ?_
  obtain ⟨q1, hq1, h⟩ := yb_bind h
  refine p_callVi (As := [.int a1, .int a2, .ref (yb_ad G 21)]) (t_X0_numberOf_21 hq1) cv_X0_72 (sh_137 _ _) rfl rfl (Nat.le_of_ble_eq_true rfl) dX0_altered_5 (yb_rok (Nat.le_of_ble_eq_true rfl) (by decide)) ⟨rfl, rfl⟩ ⟨Nat.le_refl _, Nat.le_refl _⟩ (fun k2 => ?_)
  refine n_istore (i := 6) (vs' := [some (.ref (yb_ad G 137)), some (.int a1), some (.int a2), some (.int a3), some (.int a4), some (.ref (yb_ad G 21)), some (.int q1)]) dX0_altered_8 (Nat.le_of_ble_eq_true rfl) rfl rfl ?_
  refine n_iload_n (i := 2) dX0_altered_10 rfl rfl ?_
  refine n_iload_n (i := 3) dX0_altered_11 rfl rfl ?_
  refine n_icmp_ne 23 dX0_altered_12 (by decide) (fun c3 => ?_) (fun c3 => ?_)
  · have h := yb_ifn c3 h
    refine n_iload dX0_altered_23 rfl ?_
    cases h
    exact n_iret dX0_altered_25 rfl rfl (Nat.le_refl _) (Nat.le_refl _) ⟨rfl, rfl⟩
  · have h := yb_ifp c3 h
    refine n_iload dX0_altered_15 rfl ?_
    refine n_iload dX0_altered_17 rfl ?_
    refine n_ixor dX0_altered_19 ?_
    refine n_goto 25 dX0_altered_20 (by decide) ?_
    cases h
    exact n_iret dX0_altered_25 rfl rfl (Nat.le_refl _) (Nat.le_refl _) ⟨rfl, rfl⟩
set_option maxHeartbeats 4000000 in
set_option maxRecDepth 20000 in
theorem t_X0_checked_21 {G : yb_G} {X : List (FieldType × Nat)} {a1 : Int32} {a2 : Int32} {a3 : Int32} {s : yb_S} {out : Int32} (h : f_X0_checked_21 a1 a2 a3 s = some out) : Ct G yX0_checked cX0_checked 8 (Option.some .int) (yb_rm 4) [.ref (yb_ad G 137), .int a1, .int a2, .int a3, .ref (yb_ad G 21)] (yb_mk s X) (yb_qi X s out) := by
  refine Ct.of (own := RX0) (ini := false) (vs := [some (.ref (yb_ad G 137)), some (.int a1), some (.int a2), some (.int a3), some (.ref (yb_ad G 21)), none, none, none]) ⟨rfl, by decide +kernel⟩ (fun h => by cases h) (Nat.le_of_ble_eq_true rfl) rfl ?_
  unfold f_X0_checked_21 at h
  refine n_aload_n (i := 0) dX0_checked_0 rfl rfl ?_
  refine n_iload_n (i := 1) dX0_checked_1 rfl rfl ?_
  refine n_iconst (0 : Int32) dX0_checked_2 ic_0 ?_
  refine n_iload_n (i := 2) dX0_checked_3 rfl rfl ?_
  refine n_iload_n (i := 3) dX0_checked_4 rfl rfl ?_
  refine n_aload dX0_checked_5 rfl ?_
  obtain ⟨q1, hq1, h⟩ := yb_bind h
  refine p_callVi (As := [.int a1, .int (0 : Int32), .int a2, .int a3, .ref (yb_ad G 21)]) (t_X0_altered_21 hq1) cv_X0_68 (sh_137 _ _) rfl rfl (Nat.le_of_ble_eq_true rfl) dX0_checked_7 (yb_rok (Nat.le_of_ble_eq_true rfl) (by decide)) ⟨rfl, rfl⟩ ⟨Nat.le_refl _, Nat.le_refl _⟩ (fun k2 => ?_)
  refine n_istore (i := 5) (vs' := [some (.ref (yb_ad G 137)), some (.int a1), some (.int a2), some (.int a3), some (.ref (yb_ad G 21)), some (.int q1), none, none]) dX0_checked_10 (Nat.le_of_ble_eq_true rfl) rfl rfl ?_
  refine n_aload_n (i := 0) dX0_checked_12 rfl rfl ?_
  refine n_iload_n (i := 1) dX0_checked_13 rfl rfl ?_
  refine n_iconst (1 : Int32) dX0_checked_14 ic_1 ?_
  refine n_iload_n (i := 2) dX0_checked_15 rfl rfl ?_
  refine n_iload_n (i := 3) dX0_checked_16 rfl rfl ?_
  refine n_aload dX0_checked_17 rfl ?_
  obtain ⟨q3, hq3, h⟩ := yb_bind h
  refine p_callVi (As := [.int a1, .int (1 : Int32), .int a2, .int a3, .ref (yb_ad G 21)]) (t_X0_altered_21 hq3) cv_X0_68 (sh_137 _ _) rfl rfl (Nat.le_of_ble_eq_true rfl) dX0_checked_19 (yb_rok (Nat.le_of_ble_eq_true rfl) (by decide)) ⟨rfl, rfl⟩ ⟨Nat.le_refl _, Nat.le_refl _⟩ (fun k4 => ?_)
  refine n_istore (i := 6) (vs' := [some (.ref (yb_ad G 137)), some (.int a1), some (.int a2), some (.int a3), some (.ref (yb_ad G 21)), some (.int q1), some (.int q3), none]) dX0_checked_22 (Nat.le_of_ble_eq_true rfl) rfl rfl ?_
  refine n_aload_n (i := 0) dX0_checked_24 rfl rfl ?_
  refine n_iload_n (i := 1) dX0_checked_25 rfl rfl ?_
  refine n_iconst (2 : Int32) dX0_checked_26 ic_2 ?_
  refine n_iload_n (i := 2) dX0_checked_27 rfl rfl ?_
  refine n_iload_n (i := 3) dX0_checked_28 rfl rfl ?_
  refine n_aload dX0_checked_29 rfl ?_
  obtain ⟨q5, hq5, h⟩ := yb_bind h
  refine p_callVi (As := [.int a1, .int (2 : Int32), .int a2, .int a3, .ref (yb_ad G 21)]) (t_X0_altered_21 hq5) cv_X0_68 (sh_137 _ _) rfl rfl (Nat.le_of_ble_eq_true rfl) dX0_checked_31 (yb_rok (Nat.le_of_ble_eq_true rfl) (by decide)) ⟨rfl, rfl⟩ ⟨Nat.le_refl _, Nat.le_refl _⟩ (fun k6 => ?_)
  refine n_istore (i := 7) (vs' := [some (.ref (yb_ad G 137)), some (.int a1), some (.int a2), some (.int a3), some (.ref (yb_ad G 21)), some (.int q1), some (.int q3), some (.int q5)]) dX0_checked_34 (Nat.le_of_ble_eq_true rfl) rfl rfl ?_
  refine n_iload dX0_checked_36 rfl ?_
  refine n_iload dX0_checked_38 rfl ?_
  refine n_iadd dX0_checked_40 ?_
  refine n_iload dX0_checked_41 rfl ?_
  refine n_iadd dX0_checked_43 ?_
  refine n_aload_n (i := 0) dX0_checked_44 rfl rfl ?_
  refine n_iload_n (i := 1) dX0_checked_45 rfl rfl ?_
  refine n_iconst (3 : Int32) dX0_checked_46 ic_3 ?_
  refine n_iload_n (i := 2) dX0_checked_47 rfl rfl ?_
  refine n_iload_n (i := 3) dX0_checked_48 rfl rfl ?_
  refine n_aload dX0_checked_49 rfl ?_
  obtain ⟨q7, hq7, h⟩ := yb_bind h
  refine p_callVi (As := [.int a1, .int (3 : Int32), .int a2, .int a3, .ref (yb_ad G 21)]) (t_X0_altered_21 hq7) cv_X0_68 (sh_137 _ _) rfl rfl (Nat.le_of_ble_eq_true rfl) dX0_checked_51 (yb_rok (Nat.le_of_ble_eq_true rfl) (by decide)) ⟨rfl, rfl⟩ ⟨Nat.le_refl _, Nat.le_refl _⟩ (fun k8 => ?_)
  refine n_icmp_eq 59 dX0_checked_54 (by decide) (fun c9 => ?_) (fun c9 => ?_)
  · have h := yb_ifp c9 h
    refine n_aload_n (i := 0) dX0_checked_59 rfl rfl ?_
    refine n_iload_n (i := 1) dX0_checked_60 rfl rfl ?_
    refine n_iconst (4 : Int32) dX0_checked_61 ic_4 ?_
    refine n_iload_n (i := 2) dX0_checked_62 rfl rfl ?_
    refine n_iload_n (i := 3) dX0_checked_63 rfl rfl ?_
    refine n_aload dX0_checked_64 rfl ?_
    obtain ⟨q10, hq10, h⟩ := yb_bind h
    refine p_callVi (As := [.int a1, .int (4 : Int32), .int a2, .int a3, .ref (yb_ad G 21)]) (t_X0_altered_21 hq10) cv_X0_68 (sh_137 _ _) rfl rfl (Nat.le_of_ble_eq_true rfl) dX0_checked_66 (yb_rok (Nat.le_of_ble_eq_true rfl) (by decide)) ⟨rfl, rfl⟩ ⟨Nat.le_refl _, Nat.le_refl _⟩ (fun k11 => ?_)
    refine n_aload_n (i := 0) dX0_checked_69 rfl rfl ?_
    refine n_iload_n (i := 1) dX0_checked_70 rfl rfl ?_
    obtain ⟨q12, hq12, h⟩ := yb_bind h
    refine p_callVi (As := [.int a1]) (t_X0_sumOfTowns hq12) cv_X0_58 (sh_137 _ _) rfl rfl (Nat.le_of_ble_eq_true rfl) dX0_checked_71 (yb_rok (Nat.le_of_ble_eq_true rfl) (by decide)) ⟨rfl, rfl⟩ ⟨Nat.le_refl _, Nat.le_refl _⟩ (fun k13 => ?_)
    refine n_icmp_eq 81 dX0_checked_74 (by decide) (fun c14 => ?_) (fun c14 => ?_)
    · have h := yb_ifp c14 h
      refine n_iconst (0 : Int32) dX0_checked_81 ic_0 ?_
      cases h
      exact n_iret dX0_checked_82 rfl rfl (Nat.le_refl _) (Nat.le_refl _) ⟨rfl, rfl⟩
    · have h := yb_ifn c14 h
      refine n_iconst (2 : Int32) dX0_checked_77 ic_2 ?_
      refine n_goto 82 dX0_checked_78 (by decide) ?_
      cases h
      exact n_iret dX0_checked_82 rfl rfl (Nat.le_refl _) (Nat.le_refl _) ⟨rfl, rfl⟩
  · have h := yb_ifn c9 h
    refine n_iconst (1 : Int32) dX0_checked_57 ic_1 ?_
    cases h
    exact n_iret dX0_checked_58 rfl rfl (Nat.le_refl _) (Nat.le_refl _) ⟨rfl, rfl⟩
set_option maxHeartbeats 4000000 in
set_option maxRecDepth 20000 in
theorem t_X11_check {G : yb_G} {X : List (FieldType × Nat)} {a1 : Int32} {a2 : Int32} {a3 : Int32} {s : yb_S} {out : Int32} (h : f_X11_check a1 a2 a3 s = some out) : Ct G yX11_check cX11_check 4 (Option.some .int) (yb_rm 5) [.ref (yb_ad G 0), .int a1, .int a2, .int a3] (yb_mk s X) (yb_qi X s out) := by
  refine Ct.of (own := RX11) (ini := false) (vs := [some (.ref (yb_ad G 0)), some (.int a1), some (.int a2), some (.int a3)]) ⟨rfl, by decide +kernel⟩ (fun h => by cases h) (Nat.le_of_ble_eq_true rfl) rfl ?_
  unfold f_X11_check at h
  refine n_aload_n (i := 0) dX11_check_0 rfl rfl ?_
  refine n_iload_n (i := 1) dX11_check_1 rfl rfl ?_
  obtain ⟨q1, hq1, h⟩ := yb_bind h
  refine p_callVi (As := [.int a1]) (t_X11_hasEnded hq1) cv_X11_271 (sh_0 _ _) rfl rfl (Nat.le_of_ble_eq_true rfl) dX11_check_2 (yb_rok (Nat.le_of_ble_eq_true rfl) (by decide)) ⟨rfl, rfl⟩ ⟨Nat.le_refl _, Nat.le_refl _⟩ (fun k2 => ?_)
  refine n_if_eq 17 dX11_check_5 (by decide) (fun c3 => ?_) (fun c3 => ?_)
  · have h := yb_ifp c3 h
    refine n_iconst (-1 : Int32) dX11_check_17 ic_m1 ?_
    cases h
    exact n_iret dX11_check_18 rfl rfl (Nat.le_refl _) (Nat.le_refl _) ⟨rfl, rfl⟩
  · have h := yb_ifn c3 h
    refine n_iload_n (i := 2) dX11_check_8 rfl rfl ?_
    refine n_if_lt 17 dX11_check_9 (by decide) (fun c4 => ?_) (fun c4 => ?_)
    · have h := yb_ifp c4 h
      refine n_iconst (-1 : Int32) dX11_check_17 ic_m1 ?_
      cases h
      exact n_iret dX11_check_18 rfl rfl (Nat.le_refl _) (Nat.le_refl _) ⟨rfl, rfl⟩
    · have h := yb_ifn c4 h
      refine n_iload_n (i := 2) dX11_check_12 rfl rfl ?_
      refine n_iconst (4 : Int32) dX11_check_13 ic_4 ?_
      refine n_icmp_le 19 dX11_check_14 (by decide) (fun c5 => ?_) (fun c5 => ?_)
      · have h := yb_ifp c5 h
        refine n_aload_n (i := 0) dX11_check_19 rfl rfl ?_
        refine p_getr fl_X11_42 (sh_0 _ _) rfl (rR_0_4 _ _) dX11_check_20 ?_
        refine n_iload_n (i := 1) dX11_check_23 rfl rfl ?_
        refine n_iload_n (i := 2) dX11_check_24 rfl rfl ?_
        refine n_iload_n (i := 3) dX11_check_25 rfl rfl ?_
        refine n_aload_n (i := 0) dX11_check_26 rfl rfl ?_
        refine p_getr fl_X11_10 (sh_0 _ _) rfl (rR_0_0 _ _) dX11_check_27 ?_
        refine p_getr fl_X11_100 (sh_1 _ _) rfl (rR_1_2 _ _) dX11_check_30 ?_
        obtain ⟨q6, hq6, h⟩ := yb_bind h
        refine p_callVi (As := [.int a1, .int a2, .int a3, .ref (yb_ad G 21)]) (t_X0_checked_21 hq6) cv_X11_341 (sh_137 _ _) rfl rfl (Nat.le_of_ble_eq_true rfl) dX11_check_33 (yb_rok (Nat.le_of_ble_eq_true rfl) (by decide)) ⟨rfl, rfl⟩ ⟨Nat.le_refl _, Nat.le_refl _⟩ (fun k7 => ?_)
        cases h
        exact n_iret dX11_check_36 rfl rfl (Nat.le_refl _) (Nat.le_refl _) ⟨rfl, rfl⟩
      · have h := yb_ifn c5 h
        refine n_iconst (-1 : Int32) dX11_check_17 ic_m1 ?_
        cases h
        exact n_iret dX11_check_18 rfl rfl (Nat.le_refl _) (Nat.le_refl _) ⟨rfl, rfl⟩
set_option maxHeartbeats 4000000 in
set_option maxRecDepth 20000 in
theorem tj_X8_emptyEndingHomes_42 {G : yb_G} {X : List (FieldType × Nat)} {rc2 : (Int32 → yb_S → Option yb_S)} {x1 : Int32} {s : yb_S} {out : yb_S} (hrc2 : ∀ (x1' : Int32) (s' : yb_S), rc2 x1' s' = some out → Rn G RX8 cX8_emptyEndingHomes 2 none false (yb_rm 4) (yb_qv X out) 0 0 2 [some (.ref (yb_ad G 1)), some (.int x1')] [] (yb_mk s' X)) (h : j_X8_emptyEndingHomes_42 rc2 x1 s = some out) : Rn G RX8 cX8_emptyEndingHomes 2 none false (yb_rm 4) (yb_qv X out) 0 0 42 [some (.ref (yb_ad G 1)), some (.int x1)] [] (yb_mk s X) := by
  unfold j_X8_emptyEndingHomes_42 at h
  refine n_iinc (vs' := [some (.ref (yb_ad G 1)), some (.int (x1 + (1 : Int32)))]) dX8_emptyEndingHomes_42 rfl (ii_1 _) (Nat.le_of_ble_eq_true rfl) rfl rfl ?_
  refine n_goto 2 dX8_emptyEndingHomes_45 (by decide) ?_
  exact p_jump (hrc2 (x1 + (1 : Int32)) s h) (And.intro rfl (And.intro rfl trivial))
set_option maxHeartbeats 4000000 in
set_option maxRecDepth 20000 in
theorem t_l_X8_emptyEndingHomes_2 {G : yb_G} {X : List (FieldType × Nat)} {out : yb_S} : ∀ (k0 : Nat) (x1 : Int32) (s : yb_S), l_X8_emptyEndingHomes_2 k0 x1 s = some out → Rn G RX8 cX8_emptyEndingHomes 2 none false (yb_rm 4) (yb_qv X out) 0 0 2 [some (.ref (yb_ad G 1)), some (.int x1)] [] (yb_mk s X) := by
  intro k0
  induction k0 with
  | zero => intro x1 s h; cases h
  | succ k0 ih =>
    intro x1 s h
    have h : f_X8_emptyEndingHomes_2 (fun x1 s => l_X8_emptyEndingHomes_2 k0 x1 s) x1 s = some out := h
    have hrc2 := ih
    unfold f_X8_emptyEndingHomes_2 at h
    refine n_iload_n (i := 1) dX8_emptyEndingHomes_2 rfl rfl ?_
    refine n_aload_n (i := 0) dX8_emptyEndingHomes_3 rfl rfl ?_
    refine p_getr fl_X8_21 (sh_1 _ _) rfl (rR_1_1 _ _) dX8_emptyEndingHomes_4 ?_
    refine p_geti fl_X8_87 (sh_13 _ _) rfl dX8_emptyEndingHomes_7 ?_
    refine n_icmp_ge 48 dX8_emptyEndingHomes_10 (by decide) (fun c1 => ?_) (fun c1 => ?_)
    · have h := yb_ifp c1 h
      cases h
      exact n_vret dX8_emptyEndingHomes_48 rfl (Nat.le_refl _) (Nat.le_refl _) ⟨rfl, rfl⟩
    · have h := yb_ifn c1 h
      refine n_aload_n (i := 0) dX8_emptyEndingHomes_13 rfl rfl ?_
      refine p_getr fl_X8_21 (sh_1 _ _) rfl (rR_1_1 _ _) dX8_emptyEndingHomes_14 ?_
      refine p_getr fl_X8_88 (sh_13 _ _) rfl (rR_13_6 _ _) dX8_emptyEndingHomes_17 ?_
      refine n_iload_n (i := 1) dX8_emptyEndingHomes_20 rfl rfl ?_
      obtain ⟨v2, hv2, h⟩ := yb_bind h
      refine p_iald hv2 (sh_19 _ _) dX8_emptyEndingHomes_21 ?_
      refine n_aload_n (i := 0) dX8_emptyEndingHomes_22 rfl rfl ?_
      refine p_geti fl_X8_91 (sh_1 _ _) rfl dX8_emptyEndingHomes_23 ?_
      refine n_icmp_ne 42 dX8_emptyEndingHomes_26 (by decide) (fun c3 => ?_) (fun c3 => ?_)
      · have h := yb_ifn c3 h
        exact p_jump (tj_X8_emptyEndingHomes_42 hrc2 h) (And.intro rfl (And.intro rfl trivial))
      · have h := yb_ifp c3 h
        refine n_aload_n (i := 0) dX8_emptyEndingHomes_29 rfl rfl ?_
        refine n_aload_n (i := 0) dX8_emptyEndingHomes_30 rfl rfl ?_
        refine p_getr fl_X8_21 (sh_1 _ _) rfl (rR_1_1 _ _) dX8_emptyEndingHomes_31 ?_
        refine p_getr fl_X8_76 (sh_13 _ _) rfl (rR_13_7 _ _) dX8_emptyEndingHomes_34 ?_
        refine n_iload_n (i := 1) dX8_emptyEndingHomes_37 rfl rfl ?_
        obtain ⟨v4, hv4, h⟩ := yb_bind h
        refine p_iald hv4 (sh_20 _ _) dX8_emptyEndingHomes_38 ?_
        obtain ⟨q5, hq5, h⟩ := yb_bind h
        refine p_callVv (As := [.int v4]) (t_X8_unsettle hq5) cv_X8_94 (sh_1 _ _) rfl rfl (Nat.le_of_ble_eq_true rfl) dX8_emptyEndingHomes_39 (yb_rok (Nat.le_of_ble_eq_true rfl) (by decide)) ⟨rfl, rfl⟩ ⟨Nat.le_refl _, Nat.le_refl _⟩ (fun k6 => ?_)
        exact p_jump (tj_X8_emptyEndingHomes_42 hrc2 h) (And.intro rfl (And.intro rfl trivial))
set_option maxHeartbeats 4000000 in
set_option maxRecDepth 20000 in
theorem tl_X8_emptyEndingHomes_2 {G : yb_G} {X : List (FieldType × Nat)} {out : yb_S} {x1 : Int32} {s : yb_S} (h : l_X8_emptyEndingHomes_2 yb_N x1 s = some out) : Rn G RX8 cX8_emptyEndingHomes 2 none false (yb_rm 4) (yb_qv X out) 0 0 2 [some (.ref (yb_ad G 1)), some (.int x1)] [] (yb_mk s X) := t_l_X8_emptyEndingHomes_2 _ _ _ h
set_option maxHeartbeats 4000000 in
set_option maxRecDepth 20000 in
theorem t_X8_emptyEndingHomes {G : yb_G} {X : List (FieldType × Nat)} {s : yb_S} {out : yb_S} (h : f_X8_emptyEndingHomes s = some out) : Ct G yX8_emptyEndingHomes cX8_emptyEndingHomes 2 none (yb_rm 4) [.ref (yb_ad G 1)] (yb_mk s X) (yb_qv X out) := by
  refine Ct.of (own := RX8) (ini := false) (vs := [some (.ref (yb_ad G 1)), none]) ⟨rfl, by decide +kernel⟩ (fun h => by cases h) (Nat.le_of_ble_eq_true rfl) rfl ?_
  unfold f_X8_emptyEndingHomes at h
  refine n_iconst (0 : Int32) dX8_emptyEndingHomes_0 ic_0 ?_
  refine n_istore_n (i := 1) (vs' := [some (.ref (yb_ad G 1)), some (.int (0 : Int32))]) dX8_emptyEndingHomes_1 rfl (Nat.le_of_ble_eq_true rfl) rfl rfl ?_
  exact p_jump (tl_X8_emptyEndingHomes_2 h) (And.intro rfl (And.intro rfl trivial))
set_option maxHeartbeats 4000000 in
set_option maxRecDepth 20000 in
theorem tj_X8_countNights_38 {G : yb_G} {X : List (FieldType × Nat)} {rc2 : (Int32 → yb_S → Option yb_S)} {x1 : Int32} {s : yb_S} {out : yb_S} (hrc2 : ∀ (x1' : Int32) (s' : yb_S), rc2 x1' s' = some out → Rn G RX8 cX8_countNights 2 none false (yb_rm 1) (yb_qv X out) 0 0 2 [some (.ref (yb_ad G 1)), some (.int x1')] [] (yb_mk s' X)) (h : j_X8_countNights_38 rc2 x1 s = some out) : Rn G RX8 cX8_countNights 2 none false (yb_rm 1) (yb_qv X out) 0 0 38 [some (.ref (yb_ad G 1)), some (.int x1)] [] (yb_mk s X) := by
  unfold j_X8_countNights_38 at h
  refine n_iinc (vs' := [some (.ref (yb_ad G 1)), some (.int (x1 + (1 : Int32)))]) dX8_countNights_38 rfl (ii_1 _) (Nat.le_of_ble_eq_true rfl) rfl rfl ?_
  refine n_goto 2 dX8_countNights_41 (by decide) ?_
  exact p_jump (hrc2 (x1 + (1 : Int32)) s h) (And.intro rfl (And.intro rfl trivial))
set_option maxHeartbeats 4000000 in
set_option maxRecDepth 20000 in
theorem t_l_X8_countNights_2 {G : yb_G} {X : List (FieldType × Nat)} {out : yb_S} : ∀ (k0 : Nat) (x1 : Int32) (s : yb_S), l_X8_countNights_2 k0 x1 s = some out → Rn G RX8 cX8_countNights 2 none false (yb_rm 1) (yb_qv X out) 0 0 2 [some (.ref (yb_ad G 1)), some (.int x1)] [] (yb_mk s X) := by
  intro k0
  induction k0 with
  | zero => intro x1 s h; cases h
  | succ k0 ih =>
    intro x1 s h
    have h : f_X8_countNights_2 (fun x1 s => l_X8_countNights_2 k0 x1 s) x1 s = some out := h
    have hrc2 := ih
    unfold f_X8_countNights_2 at h
    refine n_iload_n (i := 1) dX8_countNights_2 rfl rfl ?_
    refine n_aload_n (i := 0) dX8_countNights_3 rfl rfl ?_
    refine p_getr fl_X8_28 (sh_1 _ _) rfl (rR_1_2 _ _) dX8_countNights_4 ?_
    refine p_geti fl_X8_57 (sh_21 _ _) rfl dX8_countNights_7 ?_
    refine n_icmp_ge 44 dX8_countNights_10 (by decide) (fun c1 => ?_) (fun c1 => ?_)
    · have h := yb_ifp c1 h
      cases h
      exact n_vret dX8_countNights_44 rfl (Nat.le_refl _) (Nat.le_refl _) ⟨rfl, rfl⟩
    · have h := yb_ifn c1 h
      refine n_aload_n (i := 0) dX8_countNights_13 rfl rfl ?_
      refine p_getr fl_X8_28 (sh_1 _ _) rfl (rR_1_2 _ _) dX8_countNights_14 ?_
      refine p_getr fl_X8_54 (sh_21 _ _) rfl (rR_21_7 _ _) dX8_countNights_17 ?_
      refine n_iload_n (i := 1) dX8_countNights_20 rfl rfl ?_
      obtain ⟨v2, hv2, h⟩ := yb_bind h
      refine p_iald hv2 (sh_28 _ _) dX8_countNights_21 ?_
      refine n_if_ne 38 dX8_countNights_22 (by decide) (fun c3 => ?_) (fun c3 => ?_)
      · have h := yb_ifn c3 h
        exact p_jump (tj_X8_countNights_38 hrc2 h) (And.intro rfl (And.intro rfl trivial))
      · have h := yb_ifp c3 h
        refine n_aload_n (i := 0) dX8_countNights_25 rfl rfl ?_
        refine p_getr fl_X8_28 (sh_1 _ _) rfl (rR_1_2 _ _) dX8_countNights_26 ?_
        refine p_getr fl_X8_98 (sh_21 _ _) rfl (rR_21_10 _ _) dX8_countNights_29 ?_
        refine n_iload_n (i := 1) dX8_countNights_32 rfl rfl ?_
        refine n_dup2 dX8_countNights_33 rfl rfl ?_
        obtain ⟨v4, hv4, h⟩ := yb_bind h
        refine p_iald hv4 (sh_31 _ _) dX8_countNights_34 ?_
        refine n_iconst (1 : Int32) dX8_countNights_35 ic_1 ?_
        refine n_iadd dX8_countNights_36 ?_
        obtain ⟨s5, hs5, h⟩ := yb_bind h
        refine p_iast hs5 (sh_31 _ _) dX8_countNights_37 ?_
        exact p_jump (tj_X8_countNights_38 hrc2 h) (And.intro rfl (And.intro rfl trivial))
set_option maxHeartbeats 4000000 in
set_option maxRecDepth 20000 in
theorem tl_X8_countNights_2 {G : yb_G} {X : List (FieldType × Nat)} {out : yb_S} {x1 : Int32} {s : yb_S} (h : l_X8_countNights_2 yb_N x1 s = some out) : Rn G RX8 cX8_countNights 2 none false (yb_rm 1) (yb_qv X out) 0 0 2 [some (.ref (yb_ad G 1)), some (.int x1)] [] (yb_mk s X) := t_l_X8_countNights_2 _ _ _ h
set_option maxHeartbeats 4000000 in
set_option maxRecDepth 20000 in
theorem t_X8_countNights {G : yb_G} {X : List (FieldType × Nat)} {s : yb_S} {out : yb_S} (h : f_X8_countNights s = some out) : Ct G yX8_countNights cX8_countNights 2 none (yb_rm 1) [.ref (yb_ad G 1)] (yb_mk s X) (yb_qv X out) := by
  refine Ct.of (own := RX8) (ini := false) (vs := [some (.ref (yb_ad G 1)), none]) ⟨rfl, by decide +kernel⟩ (fun h => by cases h) (Nat.le_of_ble_eq_true rfl) rfl ?_
  unfold f_X8_countNights at h
  refine n_iconst (0 : Int32) dX8_countNights_0 ic_0 ?_
  refine n_istore_n (i := 1) (vs' := [some (.ref (yb_ad G 1)), some (.int (0 : Int32))]) dX8_countNights_1 rfl (Nat.le_of_ble_eq_true rfl) rfl rfl ?_
  exact p_jump (tl_X8_countNights_2 h) (And.intro rfl (And.intro rfl trivial))
set_option maxHeartbeats 4000000 in
set_option maxRecDepth 20000 in
theorem tj_X0_keepFamilies_1_103 {G : yb_G} {X : List (FieldType × Nat)} {rc7 : (Int32 → yb_S → Option yb_S)} {x2 : Int32} {x3 : Int32} {s : yb_S} {out : yb_S} (hrc7 : ∀ (x3' : Int32) (s' : yb_S), rc7 x3' s' = some out → Rn G RX0 cX0_keepFamilies 4 none false (yb_rm 1) (yb_qv X out) 0 0 7 [some (.ref (yb_ad G 137)), some (.ref (yb_ad G 1)), some (.int x2), some (.int x3')] [] (yb_mk s' X)) (h : j_X0_keepFamilies_1_103 rc7 x2 x3 s = some out) : Rn G RX0 cX0_keepFamilies 4 none false (yb_rm 1) (yb_qv X out) 0 0 103 [some (.ref (yb_ad G 137)), some (.ref (yb_ad G 1)), some (.int x2), some (.int x3)] [] (yb_mk s X) := by
  unfold j_X0_keepFamilies_1_103 at h
  refine n_iinc (vs' := [some (.ref (yb_ad G 137)), some (.ref (yb_ad G 1)), some (.int x2), some (.int (x3 + (1 : Int32)))]) dX0_keepFamilies_103 rfl (ii_1 _) (Nat.le_of_ble_eq_true rfl) rfl rfl ?_
  refine n_goto 7 dX0_keepFamilies_106 (by decide) ?_
  exact p_jump (hrc7 (x3 + (1 : Int32)) s h) (And.intro rfl (And.intro rfl (And.intro rfl (And.intro rfl trivial))))
set_option maxHeartbeats 4000000 in
set_option maxRecDepth 20000 in
theorem t_l_X0_keepFamilies_1_7 {G : yb_G} {X : List (FieldType × Nat)} {x2 : Int32} {out : yb_S} : ∀ (k0 : Nat) (x3 : Int32) (s : yb_S), l_X0_keepFamilies_1_7 x2 k0 x3 s = some out → Rn G RX0 cX0_keepFamilies 4 none false (yb_rm 1) (yb_qv X out) 0 0 7 [some (.ref (yb_ad G 137)), some (.ref (yb_ad G 1)), some (.int x2), some (.int x3)] [] (yb_mk s X) := by
  intro k0
  induction k0 with
  | zero => intro x3 s h; cases h
  | succ k0 ih =>
    intro x3 s h
    have h : f_X0_keepFamilies_1_7 (fun x3 s => l_X0_keepFamilies_1_7 x2 k0 x3 s) x2 x3 s = some out := h
    have hrc7 := ih
    unfold f_X0_keepFamilies_1_7 at h
    refine n_iload_n (i := 3) dX0_keepFamilies_7 rfl rfl ?_
    refine n_aload_n (i := 1) dX0_keepFamilies_8 rfl rfl ?_
    refine p_getr fl_X0_25 (sh_1 _ _) rfl (rR_1_2 _ _) dX0_keepFamilies_9 ?_
    refine p_geti fl_X0_29 (sh_21 _ _) rfl dX0_keepFamilies_12 ?_
    refine n_icmp_ge 109 dX0_keepFamilies_15 (by decide) (fun c1 => ?_) (fun c1 => ?_)
    · have h := yb_ifp c1 h
      cases h
      exact n_vret dX0_keepFamilies_109 rfl (Nat.le_refl _) (Nat.le_refl _) ⟨rfl, rfl⟩
    · have h := yb_ifn c1 h
      refine n_iload_n (i := 2) dX0_keepFamilies_18 rfl rfl ?_
      refine n_sipush (200 : Int32) dX0_keepFamilies_19 sp_200 ?_
      refine n_icmp_ge 109 dX0_keepFamilies_22 (by decide) (fun c2 => ?_) (fun c2 => ?_)
      · have h := yb_ifp c2 h
        cases h
        exact n_vret dX0_keepFamilies_109 rfl (Nat.le_refl _) (Nat.le_refl _) ⟨rfl, rfl⟩
      · have h := yb_ifn c2 h
        refine n_aload_n (i := 1) dX0_keepFamilies_25 rfl rfl ?_
        refine p_getr fl_X0_25 (sh_1 _ _) rfl (rR_1_2 _ _) dX0_keepFamilies_26 ?_
        refine p_getr fl_X0_34 (sh_21 _ _) rfl (rR_21_7 _ _) dX0_keepFamilies_29 ?_
        refine n_iload_n (i := 3) dX0_keepFamilies_32 rfl rfl ?_
        obtain ⟨v3, hv3, h⟩ := yb_bind h
        refine p_iald hv3 (sh_28 _ _) dX0_keepFamilies_33 ?_
        by_cases c4 : v3 = (0 : Int32)
        · have h := yb_ifp c4 h
          refine n_lookup (off := 26) 60 dX0_keepFamilies_34 (by decide) (by rw [c4]; decide) (by decide) ?_
          refine n_aload_n (i := 0) dX0_keepFamilies_60 rfl rfl ?_
          refine p_getr fl_X0_11 (sh_137 _ _) rfl (rR_137_0 _ _) dX0_keepFamilies_61 ?_
          refine n_iload_n (i := 3) dX0_keepFamilies_64 rfl rfl ?_
          obtain ⟨r6, hr6, h⟩ := yb_bind h
          refine p_aald hr6 (sh_138 _ _) (by decide) rfl (rF_138 _ _) dX0_keepFamilies_65 ?_
          refine n_iload_n (i := 2) dX0_keepFamilies_66 rfl rfl ?_
          refine n_bipush (100 : Int32) dX0_keepFamilies_67 bp_100 ?_
          obtain ⟨s7, hs7, h⟩ := yb_bind h
          refine p_iast hs7 (shF_138 hr6 _ _) dX0_keepFamilies_69 ?_
          refine n_goto 103 dX0_keepFamilies_70 (by decide) ?_
          exact p_jump (tj_X0_keepFamilies_1_103 hrc7 h) (And.intro rfl (And.intro rfl (And.intro rfl (And.intro rfl trivial))))
        · have h := yb_ifn c4 h
          by_cases c5 : v3 = (1 : Int32)
          · have h := yb_ifp c5 h
            refine n_lookup (off := 39) 73 dX0_keepFamilies_34 (by decide) (by rw [c5]; decide) (by decide) ?_
            refine n_aload_n (i := 0) dX0_keepFamilies_73 rfl rfl ?_
            refine p_getr fl_X0_11 (sh_137 _ _) rfl (rR_137_0 _ _) dX0_keepFamilies_74 ?_
            refine n_iload_n (i := 3) dX0_keepFamilies_77 rfl rfl ?_
            obtain ⟨r8, hr8, h⟩ := yb_bind h
            refine p_aald hr8 (sh_138 _ _) (by decide) rfl (rF_138 _ _) dX0_keepFamilies_78 ?_
            refine n_iload_n (i := 2) dX0_keepFamilies_79 rfl rfl ?_
            refine n_aload_n (i := 1) dX0_keepFamilies_80 rfl rfl ?_
            refine p_getr fl_X0_25 (sh_1 _ _) rfl (rR_1_2 _ _) dX0_keepFamilies_81 ?_
            refine p_getr fl_X0_38 (sh_21 _ _) rfl (rR_21_8 _ _) dX0_keepFamilies_84 ?_
            refine n_iload_n (i := 3) dX0_keepFamilies_87 rfl rfl ?_
            obtain ⟨v9, hv9, h⟩ := yb_bind h
            refine p_iald hv9 (sh_29 _ _) dX0_keepFamilies_88 ?_
            obtain ⟨s10, hs10, h⟩ := yb_bind h
            refine p_iast hs10 (shF_138 hr8 _ _) dX0_keepFamilies_89 ?_
            refine n_goto 103 dX0_keepFamilies_90 (by decide) ?_
            exact p_jump (tj_X0_keepFamilies_1_103 hrc7 h) (And.intro rfl (And.intro rfl (And.intro rfl (And.intro rfl trivial))))
          · have h := yb_ifn c5 h
            refine n_lookup (off := 59) 93 dX0_keepFamilies_34 (by decide) ((lv_osw c4 (by decide)).trans ((lv_osw c5 (by decide)).trans rfl)) (by decide) ?_
            refine n_aload_n (i := 0) dX0_keepFamilies_93 rfl rfl ?_
            refine p_getr fl_X0_11 (sh_137 _ _) rfl (rR_137_0 _ _) dX0_keepFamilies_94 ?_
            refine n_iload_n (i := 3) dX0_keepFamilies_97 rfl rfl ?_
            obtain ⟨r11, hr11, h⟩ := yb_bind h
            refine p_aald hr11 (sh_138 _ _) (by decide) rfl (rF_138 _ _) dX0_keepFamilies_98 ?_
            refine n_iload_n (i := 2) dX0_keepFamilies_99 rfl rfl ?_
            refine n_bipush (101 : Int32) dX0_keepFamilies_100 bp_101 ?_
            obtain ⟨s12, hs12, h⟩ := yb_bind h
            refine p_iast hs12 (shF_138 hr11 _ _) dX0_keepFamilies_102 ?_
            exact p_jump (tj_X0_keepFamilies_1_103 hrc7 h) (And.intro rfl (And.intro rfl (And.intro rfl (And.intro rfl trivial))))
set_option maxHeartbeats 4000000 in
set_option maxRecDepth 20000 in
theorem tl_X0_keepFamilies_1_7 {G : yb_G} {X : List (FieldType × Nat)} {x2 : Int32} {out : yb_S} {x3 : Int32} {s : yb_S} (h : l_X0_keepFamilies_1_7 x2 yb_N x3 s = some out) : Rn G RX0 cX0_keepFamilies 4 none false (yb_rm 1) (yb_qv X out) 0 0 7 [some (.ref (yb_ad G 137)), some (.ref (yb_ad G 1)), some (.int x2), some (.int x3)] [] (yb_mk s X) := t_l_X0_keepFamilies_1_7 _ _ _ h
set_option maxHeartbeats 4000000 in
set_option maxRecDepth 20000 in
theorem t_X0_keepFamilies_1 {G : yb_G} {X : List (FieldType × Nat)} {s : yb_S} {out : yb_S} (h : f_X0_keepFamilies_1 s = some out) : Ct G yX0_keepFamilies cX0_keepFamilies 4 none (yb_rm 1) [.ref (yb_ad G 137), .ref (yb_ad G 1)] (yb_mk s X) (yb_qv X out) := by
  refine Ct.of (own := RX0) (ini := false) (vs := [some (.ref (yb_ad G 137)), some (.ref (yb_ad G 1)), none, none]) ⟨rfl, by decide +kernel⟩ (fun h => by cases h) (Nat.le_of_ble_eq_true rfl) rfl ?_
  unfold f_X0_keepFamilies_1 at h
  refine n_aload_n (i := 1) dX0_keepFamilies_0 rfl rfl ?_
  refine p_geti fl_X0_19 (sh_1 _ _) rfl dX0_keepFamilies_1 ?_
  refine n_istore_n (i := 2) (vs' := [some (.ref (yb_ad G 137)), some (.ref (yb_ad G 1)), some (.int (s.1 1 5)), none]) dX0_keepFamilies_4 rfl (Nat.le_of_ble_eq_true rfl) rfl rfl ?_
  refine n_iconst (0 : Int32) dX0_keepFamilies_5 ic_0 ?_
  refine n_istore_n (i := 3) (vs' := [some (.ref (yb_ad G 137)), some (.ref (yb_ad G 1)), some (.int (s.1 1 5)), some (.int (0 : Int32))]) dX0_keepFamilies_6 rfl (Nat.le_of_ble_eq_true rfl) rfl rfl ?_
  exact p_jump (tl_X0_keepFamilies_1_7 h) (And.intro rfl (And.intro rfl (And.intro rfl (And.intro rfl trivial))))
set_option maxHeartbeats 4000000 in
set_option maxRecDepth 20000 in
theorem tj_X8_sumOf_61 {G : yb_G} {X : List (FieldType × Nat)} {rc4 : (Int32 → Int32 → yb_S → Option (Int32 × yb_S))} {x1 : Int32} {x2 : Int32} {x3 : Int32} {s : yb_S} {out : (Int32 × yb_S)} (hrc4 : ∀ (x2' : Int32) (x3' : Int32) (s' : yb_S), rc4 x2' x3' s' = some out → Rn G RX8 cX8_sumOf 5 (Option.some .int) false (yb_rm 5) (yb_qi X out.2 out.1) 0 0 4 [some (.ref (yb_ad G 1)), some (.int x1), some (.int x2'), some (.int x3'), none] [] (yb_mk s' X)) (h : j_X8_sumOf_61 rc4 x1 x2 x3 s = some out) : Rn G RX8 cX8_sumOf 5 (Option.some .int) false (yb_rm 5) (yb_qi X out.2 out.1) 0 0 61 [some (.ref (yb_ad G 1)), some (.int x1), some (.int x2), some (.int x3), none] [] (yb_mk s X) := by
  unfold j_X8_sumOf_61 at h
  refine n_iinc (vs' := [some (.ref (yb_ad G 1)), some (.int x1), some (.int x2), some (.int (x3 + (1 : Int32))), none]) dX8_sumOf_61 rfl (ii_1 _) (Nat.le_of_ble_eq_true rfl) rfl rfl ?_
  refine n_goto 4 dX8_sumOf_64 (by decide) ?_
  exact p_jump (hrc4 x2 (x3 + (1 : Int32)) s h) (And.intro rfl (And.intro rfl (And.intro rfl (And.intro rfl trivial))))
set_option maxHeartbeats 4000000 in
set_option maxRecDepth 20000 in
theorem t_l_X8_sumOf_4 {G : yb_G} {X : List (FieldType × Nat)} {x1 : Int32} {out : (Int32 × yb_S)} : ∀ (k0 : Nat) (x2 : Int32) (x3 : Int32) (s : yb_S), l_X8_sumOf_4 x1 k0 x2 x3 s = some out → Rn G RX8 cX8_sumOf 5 (Option.some .int) false (yb_rm 5) (yb_qi X out.2 out.1) 0 0 4 [some (.ref (yb_ad G 1)), some (.int x1), some (.int x2), some (.int x3), none] [] (yb_mk s X) := by
  intro k0
  induction k0 with
  | zero => intro x2 x3 s h; cases h
  | succ k0 ih =>
    intro x2 x3 s h
    have h : f_X8_sumOf_4 (fun x2 x3 s => l_X8_sumOf_4 x1 k0 x2 x3 s) x1 x2 x3 s = some out := h
    have hrc4 := ih
    unfold f_X8_sumOf_4 at h
    refine n_iload_n (i := 3) dX8_sumOf_4 rfl rfl ?_
    refine n_aload_n (i := 0) dX8_sumOf_5 rfl rfl ?_
    refine p_getr fl_X8_28 (sh_1 _ _) rfl (rR_1_2 _ _) dX8_sumOf_6 ?_
    refine p_geti fl_X8_57 (sh_21 _ _) rfl dX8_sumOf_9 ?_
    refine n_icmp_ge 67 dX8_sumOf_12 (by decide) (fun c1 => ?_) (fun c1 => ?_)
    · have h := yb_ifp c1 h
      refine n_iload_n (i := 2) dX8_sumOf_67 rfl rfl ?_
      cases h
      exact n_iret dX8_sumOf_68 rfl rfl (Nat.le_refl _) (Nat.le_refl _) ⟨rfl, rfl⟩
    · have h := yb_ifn c1 h
      refine n_aload_n (i := 0) dX8_sumOf_15 rfl rfl ?_
      refine p_getr fl_X8_28 (sh_1 _ _) rfl (rR_1_2 _ _) dX8_sumOf_16 ?_
      refine p_getr fl_X8_75 (sh_21 _ _) rfl (rR_21_9 _ _) dX8_sumOf_19 ?_
      refine n_iload_n (i := 3) dX8_sumOf_22 rfl rfl ?_
      obtain ⟨v2, hv2, h⟩ := yb_bind h
      refine p_iald hv2 (sh_30 _ _) dX8_sumOf_23 ?_
      refine n_iload_n (i := 1) dX8_sumOf_24 rfl rfl ?_
      refine n_icmp_ne 61 dX8_sumOf_25 (by decide) (fun c3 => ?_) (fun c3 => ?_)
      · have h := yb_ifn c3 h
        exact p_jump (tj_X8_sumOf_61 hrc4 h) (And.intro rfl (And.intro rfl (And.intro rfl (And.intro rfl trivial))))
      · have h := yb_ifp c3 h
        refine n_aload_n (i := 0) dX8_sumOf_28 rfl rfl ?_
        refine n_iconst (3 : Int32) dX8_sumOf_29 ic_3 ?_
        refine n_iload_n (i := 3) dX8_sumOf_30 rfl rfl ?_
        refine n_aload_n (i := 0) dX8_sumOf_31 rfl rfl ?_
        refine p_getr fl_X8_28 (sh_1 _ _) rfl (rR_1_2 _ _) dX8_sumOf_32 ?_
        refine p_getr fl_X8_72 (sh_21 _ _) rfl (rR_21_8 _ _) dX8_sumOf_35 ?_
        refine n_iload_n (i := 3) dX8_sumOf_38 rfl rfl ?_
        obtain ⟨v4, hv4, h⟩ := yb_bind h
        refine p_iald hv4 (sh_29 _ _) dX8_sumOf_39 ?_
        refine n_iconst (-1 : Int32) dX8_sumOf_40 ic_m1 ?_
        refine n_iconst (0 : Int32) dX8_sumOf_41 ic_0 ?_
        obtain ⟨q5, hq5, h⟩ := yb_bind h
        refine p_callVi (As := [.int (3 : Int32), .int x3, .int v4, .int (-1 : Int32), .int (0 : Int32)]) (t_X8_tells hq5) cv_X8_144 (sh_1 _ _) rfl rfl (Nat.le_of_ble_eq_true rfl) dX8_sumOf_42 (yb_rok (Nat.le_of_ble_eq_true rfl) (by decide)) ⟨rfl, rfl⟩ ⟨Nat.le_refl _, Nat.le_refl _⟩ (fun k6 => ?_)
        refine n_istore (i := 4) (vs' := [some (.ref (yb_ad G 1)), some (.int x1), some (.int x2), some (.int x3), some (.int q5.1)]) dX8_sumOf_45 (Nat.le_of_ble_eq_true rfl) rfl rfl ?_
        refine n_iload_n (i := 2) dX8_sumOf_47 rfl rfl ?_
        refine n_iconst (0 : Int32) dX8_sumOf_48 ic_0 ?_
        refine n_ldc (1000000 : Int32) k_X8_167 dX8_sumOf_49 ?_
        refine n_iload dX8_sumOf_51 rfl ?_
        refine n_mmin cs_X8_168 (Nat.le_of_ble_eq_true rfl) dX8_sumOf_53 ⟨Nat.le_of_ble_eq_true rfl, Nat.le_of_ble_eq_true rfl⟩ ⟨Nat.le_refl _, Nat.le_refl _⟩ ?_
        refine n_mmax cs_X8_173 (Nat.le_of_ble_eq_true rfl) dX8_sumOf_56 ⟨Nat.le_of_ble_eq_true rfl, Nat.le_of_ble_eq_true rfl⟩ ⟨Nat.le_refl _, Nat.le_refl _⟩ ?_
        refine n_iadd dX8_sumOf_59 ?_
        refine n_istore_n (i := 2) (vs' := [some (.ref (yb_ad G 1)), some (.int x1), some (.int (x2 + (yb_max (0 : Int32) (yb_min (1000000 : Int32) q5.1)))), some (.int x3), some (.int q5.1)]) dX8_sumOf_60 rfl (Nat.le_of_ble_eq_true rfl) rfl rfl ?_
        exact p_jump (tj_X8_sumOf_61 hrc4 h) (And.intro rfl (And.intro rfl (And.intro rfl (And.intro rfl trivial))))
set_option maxHeartbeats 4000000 in
set_option maxRecDepth 20000 in
theorem tl_X8_sumOf_4 {G : yb_G} {X : List (FieldType × Nat)} {x1 : Int32} {out : (Int32 × yb_S)} {x2 : Int32} {x3 : Int32} {s : yb_S} (h : l_X8_sumOf_4 x1 yb_N x2 x3 s = some out) : Rn G RX8 cX8_sumOf 5 (Option.some .int) false (yb_rm 5) (yb_qi X out.2 out.1) 0 0 4 [some (.ref (yb_ad G 1)), some (.int x1), some (.int x2), some (.int x3), none] [] (yb_mk s X) := t_l_X8_sumOf_4 _ _ _ _ h
set_option maxHeartbeats 4000000 in
set_option maxRecDepth 20000 in
theorem t_X8_sumOf {G : yb_G} {X : List (FieldType × Nat)} {a1 : Int32} {s : yb_S} {out : (Int32 × yb_S)} (h : f_X8_sumOf a1 s = some out) : Ct G yX8_sumOf cX8_sumOf 5 (Option.some .int) (yb_rm 5) [.ref (yb_ad G 1), .int a1] (yb_mk s X) (yb_qi X out.2 out.1) := by
  refine Ct.of (own := RX8) (ini := false) (vs := [some (.ref (yb_ad G 1)), some (.int a1), none, none, none]) ⟨rfl, by decide +kernel⟩ (fun h => by cases h) (Nat.le_of_ble_eq_true rfl) rfl ?_
  unfold f_X8_sumOf at h
  refine n_iconst (0 : Int32) dX8_sumOf_0 ic_0 ?_
  refine n_istore_n (i := 2) (vs' := [some (.ref (yb_ad G 1)), some (.int a1), some (.int (0 : Int32)), none, none]) dX8_sumOf_1 rfl (Nat.le_of_ble_eq_true rfl) rfl rfl ?_
  refine n_iconst (0 : Int32) dX8_sumOf_2 ic_0 ?_
  refine n_istore_n (i := 3) (vs' := [some (.ref (yb_ad G 1)), some (.int a1), some (.int (0 : Int32)), some (.int (0 : Int32)), none]) dX8_sumOf_3 rfl (Nat.le_of_ble_eq_true rfl) rfl rfl ?_
  exact p_jump (tl_X8_sumOf_4 h) (And.intro rfl (And.intro rfl (And.intro rfl (And.intro rfl trivial))))
set_option maxHeartbeats 4000000 in
set_option maxRecDepth 20000 in
theorem t_l_X0_keepSums_1_7 {G : yb_G} {X : List (FieldType × Nat)} {x2 : Int32} {out : yb_S} : ∀ (k0 : Nat) (x3 : Int32) (s : yb_S), l_X0_keepSums_1_7 x2 k0 x3 s = some out → Rn G RX0 cX0_keepSums 4 none false (yb_rm 6) (yb_qv X out) 0 0 7 [some (.ref (yb_ad G 137)), some (.ref (yb_ad G 1)), some (.int x2), some (.int x3)] [] (yb_mk s X) := by
  intro k0
  induction k0 with
  | zero => intro x3 s h; cases h
  | succ k0 ih =>
    intro x3 s h
    have h : f_X0_keepSums_1_7 (fun x3 s => l_X0_keepSums_1_7 x2 k0 x3 s) x2 x3 s = some out := h
    have hrc7 := ih
    unfold f_X0_keepSums_1_7 at h
    refine n_iload_n (i := 3) dX0_keepSums_7 rfl rfl ?_
    refine n_aload_n (i := 1) dX0_keepSums_8 rfl rfl ?_
    refine p_getr fl_X0_41 (sh_1 _ _) rfl (rR_1_0 _ _) dX0_keepSums_9 ?_
    refine p_geti fl_X0_45 (sh_2 _ _) rfl dX0_keepSums_12 ?_
    refine n_icmp_ge 65 dX0_keepSums_15 (by decide) (fun c1 => ?_) (fun c1 => ?_)
    · have h := yb_ifp c1 h
      cases h
      exact n_vret dX0_keepSums_65 rfl (Nat.le_refl _) (Nat.le_refl _) ⟨rfl, rfl⟩
    · have h := yb_ifn c1 h
      refine n_iload_n (i := 2) dX0_keepSums_18 rfl rfl ?_
      refine n_sipush (200 : Int32) dX0_keepSums_19 sp_200 ?_
      refine n_icmp_ge 65 dX0_keepSums_22 (by decide) (fun c2 => ?_) (fun c2 => ?_)
      · have h := yb_ifp c2 h
        cases h
        exact n_vret dX0_keepSums_65 rfl (Nat.le_refl _) (Nat.le_refl _) ⟨rfl, rfl⟩
      · have h := yb_ifn c2 h
        refine n_aload_n (i := 0) dX0_keepSums_25 rfl rfl ?_
        refine p_getr fl_X0_16 (sh_137 _ _) rfl (rR_137_1 _ _) dX0_keepSums_26 ?_
        refine n_iload_n (i := 3) dX0_keepSums_29 rfl rfl ?_
        obtain ⟨r3, hr3, h⟩ := yb_bind h
        refine p_aald hr3 (sh_163 _ _) (by decide) rfl (rF_163 _ _) dX0_keepSums_30 ?_
        refine n_iload_n (i := 2) dX0_keepSums_31 rfl rfl ?_
        refine n_aload_n (i := 1) dX0_keepSums_32 rfl rfl ?_
        refine n_iload_n (i := 3) dX0_keepSums_33 rfl rfl ?_
        obtain ⟨q4, hq4, h⟩ := yb_bind h
        refine p_callVi (As := [.int x3]) (t_X8_sumOf hq4) cv_X0_48 (sh_1 _ _) rfl rfl (Nat.le_of_ble_eq_true rfl) dX0_keepSums_34 (yb_rok (Nat.le_of_ble_eq_true rfl) (by decide)) ⟨rfl, rfl⟩ ⟨Nat.le_refl _, Nat.le_refl _⟩ (fun k5 => ?_)
        obtain ⟨s6, hs6, h⟩ := yb_bind h
        refine p_iast hs6 (shF_163 hr3 _ _) dX0_keepSums_37 ?_
        refine n_aload_n (i := 1) dX0_keepSums_38 rfl rfl ?_
        refine p_getr fl_X0_41 (sh_1 _ _) rfl (rR_1_0 _ _) dX0_keepSums_39 ?_
        refine p_getr fl_X0_52 (sh_2 _ _) rfl (rR_2_10 _ _) dX0_keepSums_42 ?_
        refine n_iload_n (i := 3) dX0_keepSums_45 rfl rfl ?_
        refine n_dup2 dX0_keepSums_46 rfl rfl ?_
        obtain ⟨v7, hv7, h⟩ := yb_bind h
        refine p_lald hv7 (sh_12 _ _) dX0_keepSums_47 ?_
        refine n_aload_n (i := 0) dX0_keepSums_48 rfl rfl ?_
        refine p_getr fl_X0_16 (sh_137 _ _) rfl (rR_137_1 _ _) dX0_keepSums_49 ?_
        refine n_iload_n (i := 3) dX0_keepSums_52 rfl rfl ?_
        obtain ⟨r8, hr8, h⟩ := yb_bind h
        refine p_aald hr8 (sh_163 _ _) (by decide) rfl (rF_163 _ _) dX0_keepSums_53 ?_
        refine n_iload_n (i := 2) dX0_keepSums_54 rfl rfl ?_
        obtain ⟨v9, hv9, h⟩ := yb_bind h
        refine p_iald hv9 (shF_163 hr8 _ _) dX0_keepSums_55 ?_
        refine n_i2l dX0_keepSums_56 ?_
        refine n_ladd dX0_keepSums_57 ?_
        obtain ⟨s10, hs10, h⟩ := yb_bind h
        refine p_last hs10 (sh_12 _ _) dX0_keepSums_58 ?_
        refine n_iinc (vs' := [some (.ref (yb_ad G 137)), some (.ref (yb_ad G 1)), some (.int x2), some (.int (x3 + (1 : Int32)))]) dX0_keepSums_59 rfl (ii_1 _) (Nat.le_of_ble_eq_true rfl) rfl rfl ?_
        refine n_goto 7 dX0_keepSums_62 (by decide) ?_
        exact p_jump (hrc7 (x3 + (1 : Int32)) s10 h) (And.intro rfl (And.intro rfl (And.intro rfl (And.intro rfl trivial))))
set_option maxHeartbeats 4000000 in
set_option maxRecDepth 20000 in
theorem tl_X0_keepSums_1_7 {G : yb_G} {X : List (FieldType × Nat)} {x2 : Int32} {out : yb_S} {x3 : Int32} {s : yb_S} (h : l_X0_keepSums_1_7 x2 yb_N x3 s = some out) : Rn G RX0 cX0_keepSums 4 none false (yb_rm 6) (yb_qv X out) 0 0 7 [some (.ref (yb_ad G 137)), some (.ref (yb_ad G 1)), some (.int x2), some (.int x3)] [] (yb_mk s X) := t_l_X0_keepSums_1_7 _ _ _ h
set_option maxHeartbeats 4000000 in
set_option maxRecDepth 20000 in
theorem t_X0_keepSums_1 {G : yb_G} {X : List (FieldType × Nat)} {s : yb_S} {out : yb_S} (h : f_X0_keepSums_1 s = some out) : Ct G yX0_keepSums cX0_keepSums 4 none (yb_rm 6) [.ref (yb_ad G 137), .ref (yb_ad G 1)] (yb_mk s X) (yb_qv X out) := by
  refine Ct.of (own := RX0) (ini := false) (vs := [some (.ref (yb_ad G 137)), some (.ref (yb_ad G 1)), none, none]) ⟨rfl, by decide +kernel⟩ (fun h => by cases h) (Nat.le_of_ble_eq_true rfl) rfl ?_
  unfold f_X0_keepSums_1 at h
  refine n_aload_n (i := 1) dX0_keepSums_0 rfl rfl ?_
  refine p_geti fl_X0_19 (sh_1 _ _) rfl dX0_keepSums_1 ?_
  refine n_istore_n (i := 2) (vs' := [some (.ref (yb_ad G 137)), some (.ref (yb_ad G 1)), some (.int (s.1 1 5)), none]) dX0_keepSums_4 rfl (Nat.le_of_ble_eq_true rfl) rfl rfl ?_
  refine n_iconst (0 : Int32) dX0_keepSums_5 ic_0 ?_
  refine n_istore_n (i := 3) (vs' := [some (.ref (yb_ad G 137)), some (.ref (yb_ad G 1)), some (.int (s.1 1 5)), some (.int (0 : Int32))]) dX0_keepSums_6 rfl (Nat.le_of_ble_eq_true rfl) rfl rfl ?_
  exact p_jump (tl_X0_keepSums_1_7 h) (And.intro rfl (And.intro rfl (And.intro rfl (And.intro rfl trivial))))
set_option maxHeartbeats 4000000 in
set_option maxRecDepth 20000 in
theorem t_X11_closeDay {G : yb_G} {X : List (FieldType × Nat)} {s : yb_S} {out : yb_S} (h : f_X11_closeDay s = some out) : Ct G yX11_closeDay cX11_closeDay 1 none (yb_rm 7) [.ref (yb_ad G 0)] (yb_mk s X) (yb_qv X out) := by
  refine Ct.of (own := RX11) (ini := false) (vs := [some (.ref (yb_ad G 0))]) ⟨rfl, by decide +kernel⟩ (fun h => by cases h) (Nat.le_of_ble_eq_true rfl) rfl ?_
  unfold f_X11_closeDay at h
  refine n_aload_n (i := 0) dX11_closeDay_0 rfl rfl ?_
  refine p_getr fl_X11_10 (sh_0 _ _) rfl (rR_0_0 _ _) dX11_closeDay_1 ?_
  obtain ⟨q1, hq1, h⟩ := yb_bind h
  refine p_callVv (As := []) (t_X8_emptyEndingHomes hq1) cv_X11_385 (sh_1 _ _) rfl rfl (Nat.le_of_ble_eq_true rfl) dX11_closeDay_4 (yb_rok (Nat.le_of_ble_eq_true rfl) (by decide)) ⟨rfl, rfl⟩ ⟨Nat.le_refl _, Nat.le_refl _⟩ (fun k2 => ?_)
  refine n_aload_n (i := 0) dX11_closeDay_7 rfl rfl ?_
  refine p_getr fl_X11_10 (sh_0 _ _) rfl (rR_0_0 _ _) dX11_closeDay_8 ?_
  obtain ⟨q3, hq3, h⟩ := yb_bind h
  refine p_callVv (As := []) (t_X8_countNights hq3) cv_X11_388 (sh_1 _ _) rfl rfl (Nat.le_of_ble_eq_true rfl) dX11_closeDay_11 (yb_rok (Nat.le_of_ble_eq_true rfl) (by decide)) ⟨rfl, rfl⟩ ⟨Nat.le_refl _, Nat.le_refl _⟩ (fun k4 => ?_)
  refine n_aload_n (i := 0) dX11_closeDay_14 rfl rfl ?_
  refine p_getr fl_X11_42 (sh_0 _ _) rfl (rR_0_4 _ _) dX11_closeDay_15 ?_
  refine n_aload_n (i := 0) dX11_closeDay_18 rfl rfl ?_
  refine p_getr fl_X11_10 (sh_0 _ _) rfl (rR_0_0 _ _) dX11_closeDay_19 ?_
  obtain ⟨q5, hq5, h⟩ := yb_bind h
  refine p_callVv (As := [.ref (yb_ad G 1)]) (t_X0_keepFamilies_1 hq5) cv_X11_391 (sh_137 _ _) rfl rfl (Nat.le_of_ble_eq_true rfl) dX11_closeDay_22 (yb_rok (Nat.le_of_ble_eq_true rfl) (by decide)) ⟨rfl, rfl⟩ ⟨Nat.le_refl _, Nat.le_refl _⟩ (fun k6 => ?_)
  refine n_aload_n (i := 0) dX11_closeDay_25 rfl rfl ?_
  refine p_getr fl_X11_42 (sh_0 _ _) rfl (rR_0_4 _ _) dX11_closeDay_26 ?_
  refine n_aload_n (i := 0) dX11_closeDay_29 rfl rfl ?_
  refine p_getr fl_X11_10 (sh_0 _ _) rfl (rR_0_0 _ _) dX11_closeDay_30 ?_
  obtain ⟨q7, hq7, h⟩ := yb_bind h
  refine p_callVv (As := [.ref (yb_ad G 1)]) (t_X0_keepSums_1 hq7) cv_X11_394 (sh_137 _ _) rfl rfl (Nat.le_of_ble_eq_true rfl) dX11_closeDay_33 (yb_rok (Nat.le_of_ble_eq_true rfl) (by decide)) ⟨rfl, rfl⟩ ⟨Nat.le_refl _, Nat.le_refl _⟩ (fun k8 => ?_)
  refine n_aload_n (i := 0) dX11_closeDay_36 rfl rfl ?_
  refine p_getr fl_X11_10 (sh_0 _ _) rfl (rR_0_0 _ _) dX11_closeDay_37 ?_
  refine n_dup dX11_closeDay_40 rfl ?_
  refine p_geti fl_X11_104 (sh_1 _ _) rfl dX11_closeDay_41 ?_
  refine n_iconst (1 : Int32) dX11_closeDay_44 ic_1 ?_
  refine n_iadd dX11_closeDay_45 ?_
  obtain ⟨s9, hs9, h⟩ := yb_bind h
  refine p_puti hs9 fp_X11_104 (sh_1 _ _) rfl rfl rfl dX11_closeDay_46 ?_
  cases h
  exact n_vret dX11_closeDay_49 rfl (Nat.le_refl _) (Nat.le_refl _) ⟨rfl, rfl⟩
set_option maxHeartbeats 4000000 in
set_option maxRecDepth 20000 in
theorem tj_X8_headsIn_40 {G : yb_G} {X : List (FieldType × Nat)} {rc4 : (Int32 → Int32 → Option Int32)} {x1 : Int32} {x2 : Int32} {x3 : Int32} {s : yb_S} {out : Int32} (hrc4 : ∀ (x2' : Int32) (x3' : Int32), rc4 x2' x3' = some out → Rn G RX8 cX8_headsIn 4 (Option.some .int) false (yb_rm 1) (yb_qi X s out) 0 0 4 [some (.ref (yb_ad G 1)), some (.int x1), some (.int x2'), some (.int x3')] [] (yb_mk s X)) (h : j_X8_headsIn_40 rc4 x1 x2 x3 s = some out) : Rn G RX8 cX8_headsIn 4 (Option.some .int) false (yb_rm 1) (yb_qi X s out) 0 0 40 [some (.ref (yb_ad G 1)), some (.int x1), some (.int x2), some (.int x3)] [] (yb_mk s X) := by
  unfold j_X8_headsIn_40 at h
  refine n_iinc (vs' := [some (.ref (yb_ad G 1)), some (.int x1), some (.int x2), some (.int (x3 + (1 : Int32)))]) dX8_headsIn_40 rfl (ii_1 _) (Nat.le_of_ble_eq_true rfl) rfl rfl ?_
  refine n_goto 4 dX8_headsIn_43 (by decide) ?_
  exact p_jump (hrc4 x2 (x3 + (1 : Int32)) h) (And.intro rfl (And.intro rfl (And.intro rfl (And.intro rfl trivial))))
set_option maxHeartbeats 4000000 in
set_option maxRecDepth 20000 in
theorem t_l_X8_headsIn_4 {G : yb_G} {X : List (FieldType × Nat)} {x1 : Int32} {s : yb_S} {out : Int32} : ∀ (k0 : Nat) (x2 : Int32) (x3 : Int32), l_X8_headsIn_4 x1 s k0 x2 x3 = some out → Rn G RX8 cX8_headsIn 4 (Option.some .int) false (yb_rm 1) (yb_qi X s out) 0 0 4 [some (.ref (yb_ad G 1)), some (.int x1), some (.int x2), some (.int x3)] [] (yb_mk s X) := by
  intro k0
  induction k0 with
  | zero => intro x2 x3 h; cases h
  | succ k0 ih =>
    intro x2 x3 h
    have h : f_X8_headsIn_4 (fun x2 x3 => l_X8_headsIn_4 x1 s k0 x2 x3) x1 s x2 x3 = some out := h
    have hrc4 := ih
    unfold f_X8_headsIn_4 at h
    refine n_iload_n (i := 3) dX8_headsIn_4 rfl rfl ?_
    refine n_aload_n (i := 0) dX8_headsIn_5 rfl rfl ?_
    refine p_getr fl_X8_28 (sh_1 _ _) rfl (rR_1_2 _ _) dX8_headsIn_6 ?_
    refine p_geti fl_X8_57 (sh_21 _ _) rfl dX8_headsIn_9 ?_
    refine n_icmp_ge 46 dX8_headsIn_12 (by decide) (fun c1 => ?_) (fun c1 => ?_)
    · have h := yb_ifp c1 h
      refine n_iload_n (i := 2) dX8_headsIn_46 rfl rfl ?_
      cases h
      exact n_iret dX8_headsIn_47 rfl rfl (Nat.le_refl _) (Nat.le_refl _) ⟨rfl, rfl⟩
    · have h := yb_ifn c1 h
      refine n_aload_n (i := 0) dX8_headsIn_15 rfl rfl ?_
      refine p_getr fl_X8_28 (sh_1 _ _) rfl (rR_1_2 _ _) dX8_headsIn_16 ?_
      refine p_getr fl_X8_54 (sh_21 _ _) rfl (rR_21_7 _ _) dX8_headsIn_19 ?_
      refine n_iload_n (i := 3) dX8_headsIn_22 rfl rfl ?_
      obtain ⟨v2, hv2, h⟩ := yb_bind h
      refine p_iald hv2 (sh_28 _ _) dX8_headsIn_23 ?_
      refine n_iload_n (i := 1) dX8_headsIn_24 rfl rfl ?_
      refine n_icmp_ne 40 dX8_headsIn_25 (by decide) (fun c3 => ?_) (fun c3 => ?_)
      · have h := yb_ifn c3 h
        exact p_jump (tj_X8_headsIn_40 hrc4 h) (And.intro rfl (And.intro rfl (And.intro rfl (And.intro rfl trivial))))
      · have h := yb_ifp c3 h
        refine n_iload_n (i := 2) dX8_headsIn_28 rfl rfl ?_
        refine n_aload_n (i := 0) dX8_headsIn_29 rfl rfl ?_
        refine p_getr fl_X8_28 (sh_1 _ _) rfl (rR_1_2 _ _) dX8_headsIn_30 ?_
        refine p_getr fl_X8_61 (sh_21 _ _) rfl (rR_21_1 _ _) dX8_headsIn_33 ?_
        refine n_iload_n (i := 3) dX8_headsIn_36 rfl rfl ?_
        obtain ⟨v4, hv4, h⟩ := yb_bind h
        refine p_iald hv4 (sh_22 _ _) dX8_headsIn_37 ?_
        refine n_iadd dX8_headsIn_38 ?_
        refine n_istore_n (i := 2) (vs' := [some (.ref (yb_ad G 1)), some (.int x1), some (.int (x2 + v4)), some (.int x3)]) dX8_headsIn_39 rfl (Nat.le_of_ble_eq_true rfl) rfl rfl ?_
        exact p_jump (tj_X8_headsIn_40 hrc4 h) (And.intro rfl (And.intro rfl (And.intro rfl (And.intro rfl trivial))))
set_option maxHeartbeats 4000000 in
set_option maxRecDepth 20000 in
theorem tl_X8_headsIn_4 {G : yb_G} {X : List (FieldType × Nat)} {x1 : Int32} {s : yb_S} {out : Int32} {x2 : Int32} {x3 : Int32} (h : l_X8_headsIn_4 x1 s yb_N x2 x3 = some out) : Rn G RX8 cX8_headsIn 4 (Option.some .int) false (yb_rm 1) (yb_qi X s out) 0 0 4 [some (.ref (yb_ad G 1)), some (.int x1), some (.int x2), some (.int x3)] [] (yb_mk s X) := t_l_X8_headsIn_4 _ _ _ h
set_option maxHeartbeats 4000000 in
set_option maxRecDepth 20000 in
theorem t_X8_headsIn {G : yb_G} {X : List (FieldType × Nat)} {a1 : Int32} {s : yb_S} {out : Int32} (h : f_X8_headsIn a1 s = some out) : Ct G yX8_headsIn cX8_headsIn 4 (Option.some .int) (yb_rm 1) [.ref (yb_ad G 1), .int a1] (yb_mk s X) (yb_qi X s out) := by
  refine Ct.of (own := RX8) (ini := false) (vs := [some (.ref (yb_ad G 1)), some (.int a1), none, none]) ⟨rfl, by decide +kernel⟩ (fun h => by cases h) (Nat.le_of_ble_eq_true rfl) rfl ?_
  unfold f_X8_headsIn at h
  refine n_iconst (0 : Int32) dX8_headsIn_0 ic_0 ?_
  refine n_istore_n (i := 2) (vs' := [some (.ref (yb_ad G 1)), some (.int a1), some (.int (0 : Int32)), none]) dX8_headsIn_1 rfl (Nat.le_of_ble_eq_true rfl) rfl rfl ?_
  refine n_iconst (0 : Int32) dX8_headsIn_2 ic_0 ?_
  refine n_istore_n (i := 3) (vs' := [some (.ref (yb_ad G 1)), some (.int a1), some (.int (0 : Int32)), some (.int (0 : Int32))]) dX8_headsIn_3 rfl (Nat.le_of_ble_eq_true rfl) rfl rfl ?_
  exact p_jump (tl_X8_headsIn_4 h) (And.intro rfl (And.intro rfl (And.intro rfl (And.intro rfl trivial))))
set_option maxHeartbeats 4000000 in
set_option maxRecDepth 20000 in
theorem t_X11_count {G : yb_G} {X : List (FieldType × Nat)} {a1 : Int32} {s : yb_S} {out : Int32} (h : f_X11_count a1 s = some out) : Ct G yX11_count cX11_count 2 (Option.some .int) (yb_rm 2) [.ref (yb_ad G 0), .int a1] (yb_mk s X) (yb_qi X s out) := by
  refine Ct.of (own := RX11) (ini := false) (vs := [some (.ref (yb_ad G 0)), some (.int a1)]) ⟨rfl, by decide +kernel⟩ (fun h => by cases h) (Nat.le_of_ble_eq_true rfl) rfl ?_
  unfold f_X11_count at h
  refine n_iload_n (i := 1) dX11_count_0 rfl rfl ?_
  by_cases c1 : a1 = (0 : Int32)
  · have h := yb_ifp c1 h
    refine n_tableIn (off := 67) 68 dX11_count_1 (by rw [c1]; decide) (by rw [c1]; decide) (by rw [c1]; decide) (by decide) ?_
    refine n_aload_n (i := 0) dX11_count_68 rfl rfl ?_
    refine p_getr fl_X11_10 (sh_0 _ _) rfl (rR_0_0 _ _) dX11_count_69 ?_
    refine p_geti fl_X11_104 (sh_1 _ _) rfl dX11_count_72 ?_
    cases h
    exact n_iret dX11_count_75 rfl rfl (Nat.le_refl _) (Nat.le_refl _) ⟨rfl, rfl⟩
  · have h := yb_ifn c1 h
    by_cases c2 : a1 = (1 : Int32)
    · have h := yb_ifp c2 h
      refine n_tableIn (off := 75) 76 dX11_count_1 (by rw [c2]; decide) (by rw [c2]; decide) (by rw [c2]; decide) (by decide) ?_
      refine n_aload_n (i := 0) dX11_count_76 rfl rfl ?_
      refine p_getr fl_X11_10 (sh_0 _ _) rfl (rR_0_0 _ _) dX11_count_77 ?_
      refine p_getr fl_X11_53 (sh_1 _ _) rfl (rR_1_0 _ _) dX11_count_80 ?_
      refine p_geti fl_X11_373 (sh_2 _ _) rfl dX11_count_83 ?_
      cases h
      exact n_iret dX11_count_86 rfl rfl (Nat.le_refl _) (Nat.le_refl _) ⟨rfl, rfl⟩
    · have h := yb_ifn c2 h
      by_cases c3 : a1 = (2 : Int32)
      · have h := yb_ifp c3 h
        refine n_tableIn (off := 86) 87 dX11_count_1 (by rw [c3]; decide) (by rw [c3]; decide) (by rw [c3]; decide) (by decide) ?_
        refine n_aload_n (i := 0) dX11_count_87 rfl rfl ?_
        refine p_getr fl_X11_10 (sh_0 _ _) rfl (rR_0_0 _ _) dX11_count_88 ?_
        refine p_getr fl_X11_77 (sh_1 _ _) rfl (rR_1_1 _ _) dX11_count_91 ?_
        refine p_geti fl_X11_287 (sh_13 _ _) rfl dX11_count_94 ?_
        cases h
        exact n_iret dX11_count_97 rfl rfl (Nat.le_refl _) (Nat.le_refl _) ⟨rfl, rfl⟩
      · have h := yb_ifn c3 h
        by_cases c4 : a1 = (3 : Int32)
        · have h := yb_ifp c4 h
          refine n_tableIn (off := 97) 98 dX11_count_1 (by rw [c4]; decide) (by rw [c4]; decide) (by rw [c4]; decide) (by decide) ?_
          refine n_aload_n (i := 0) dX11_count_98 rfl rfl ?_
          refine p_getr fl_X11_10 (sh_0 _ _) rfl (rR_0_0 _ _) dX11_count_99 ?_
          refine p_getr fl_X11_100 (sh_1 _ _) rfl (rR_1_2 _ _) dX11_count_102 ?_
          refine p_geti fl_X11_281 (sh_21 _ _) rfl dX11_count_105 ?_
          cases h
          exact n_iret dX11_count_108 rfl rfl (Nat.le_refl _) (Nat.le_refl _) ⟨rfl, rfl⟩
        · have h := yb_ifn c4 h
          by_cases c5 : a1 = (4 : Int32)
          · have h := yb_ifp c5 h
            refine n_tableIn (off := 108) 109 dX11_count_1 (by rw [c5]; decide) (by rw [c5]; decide) (by rw [c5]; decide) (by decide) ?_
            refine n_aload_n (i := 0) dX11_count_109 rfl rfl ?_
            refine p_getr fl_X11_10 (sh_0 _ _) rfl (rR_0_0 _ _) dX11_count_110 ?_
            refine p_getr fl_X11_128 (sh_1 _ _) rfl (rR_1_3 _ _) dX11_count_113 ?_
            refine p_geti fl_X11_374 (sh_41 _ _) rfl dX11_count_116 ?_
            cases h
            exact n_iret dX11_count_119 rfl rfl (Nat.le_refl _) (Nat.le_refl _) ⟨rfl, rfl⟩
          · have h := yb_ifn c5 h
            by_cases c6 : a1 = (5 : Int32)
            · have h := yb_ifp c6 h
              refine n_tableIn (off := 119) 120 dX11_count_1 (by rw [c6]; decide) (by rw [c6]; decide) (by rw [c6]; decide) (by decide) ?_
              refine n_aload_n (i := 0) dX11_count_120 rfl rfl ?_
              refine p_getr fl_X11_10 (sh_0 _ _) rfl (rR_0_0 _ _) dX11_count_121 ?_
              refine p_getr fl_X11_197 (sh_1 _ _) rfl (rR_1_4 _ _) dX11_count_124 ?_
              refine p_geti fl_X11_375 (sh_54 _ _) rfl dX11_count_127 ?_
              cases h
              exact n_iret dX11_count_130 rfl rfl (Nat.le_refl _) (Nat.le_refl _) ⟨rfl, rfl⟩
            · have h := yb_ifn c6 h
              by_cases c7 : a1 = (6 : Int32)
              · have h := yb_ifp c7 h
                refine n_tableIn (off := 130) 131 dX11_count_1 (by rw [c7]; decide) (by rw [c7]; decide) (by rw [c7]; decide) (by decide) ?_
                refine n_aload_n (i := 0) dX11_count_131 rfl rfl ?_
                refine p_getr fl_X11_19 (sh_0 _ _) rfl (rR_0_1 _ _) dX11_count_132 ?_
                refine p_geti fl_X11_188 (sh_92 _ _) rfl dX11_count_135 ?_
                cases h
                exact n_iret dX11_count_138 rfl rfl (Nat.le_refl _) (Nat.le_refl _) ⟨rfl, rfl⟩
              · have h := yb_ifn c7 h
                by_cases c8 : a1 = (7 : Int32)
                · have h := yb_ifp c8 h
                  refine n_tableIn (off := 138) 139 dX11_count_1 (by rw [c8]; decide) (by rw [c8]; decide) (by rw [c8]; decide) (by decide) ?_
                  refine n_aload_n (i := 0) dX11_count_139 rfl rfl ?_
                  refine p_getr fl_X11_10 (sh_0 _ _) rfl (rR_0_0 _ _) dX11_count_140 ?_
                  refine n_iconst (0 : Int32) dX11_count_143 ic_0 ?_
                  obtain ⟨q14, hq14, h⟩ := yb_bind h
                  refine p_callVi (As := [.int (0 : Int32)]) (t_X8_headsIn hq14) cv_X11_318 (sh_1 _ _) rfl rfl (Nat.le_of_ble_eq_true rfl) dX11_count_144 (yb_rok (Nat.le_of_ble_eq_true rfl) (by decide)) ⟨rfl, rfl⟩ ⟨Nat.le_refl _, Nat.le_refl _⟩ (fun k15 => ?_)
                  cases h
                  exact n_iret dX11_count_147 rfl rfl (Nat.le_refl _) (Nat.le_refl _) ⟨rfl, rfl⟩
                · have h := yb_ifn c8 h
                  by_cases c9 : a1 = (8 : Int32)
                  · have h := yb_ifp c9 h
                    refine n_tableIn (off := 147) 148 dX11_count_1 (by rw [c9]; decide) (by rw [c9]; decide) (by rw [c9]; decide) (by decide) ?_
                    refine n_aload_n (i := 0) dX11_count_148 rfl rfl ?_
                    refine p_getr fl_X11_10 (sh_0 _ _) rfl (rR_0_0 _ _) dX11_count_149 ?_
                    refine p_geti fl_X11_90 (sh_1 _ _) rfl dX11_count_152 ?_
                    cases h
                    exact n_iret dX11_count_155 rfl rfl (Nat.le_refl _) (Nat.le_refl _) ⟨rfl, rfl⟩
                  · have h := yb_ifn c9 h
                    by_cases c10 : a1 = (9 : Int32)
                    · have h := yb_ifp c10 h
                      refine n_tableIn (off := 155) 156 dX11_count_1 (by rw [c10]; decide) (by rw [c10]; decide) (by rw [c10]; decide) (by decide) ?_
                      refine n_iconst (0 : Int32) dX11_count_156 ic_0 ?_
                      refine n_aload_n (i := 0) dX11_count_157 rfl rfl ?_
                      refine p_getr fl_X11_10 (sh_0 _ _) rfl (rR_0_0 _ _) dX11_count_158 ?_
                      refine n_iconst (0 : Int32) dX11_count_161 ic_0 ?_
                      obtain ⟨q16, hq16, h⟩ := yb_bind h
                      refine p_callVi (As := [.int (0 : Int32)]) (t_X8_headsIn hq16) cv_X11_318 (sh_1 _ _) rfl rfl (Nat.le_of_ble_eq_true rfl) dX11_count_162 (yb_rok (Nat.le_of_ble_eq_true rfl) (by decide)) ⟨rfl, rfl⟩ ⟨Nat.le_refl _, Nat.le_refl _⟩ (fun k17 => ?_)
                      refine n_aload_n (i := 0) dX11_count_165 rfl rfl ?_
                      refine p_getr fl_X11_10 (sh_0 _ _) rfl (rR_0_0 _ _) dX11_count_166 ?_
                      refine p_geti fl_X11_90 (sh_1 _ _) rfl dX11_count_169 ?_
                      refine n_isub dX11_count_172 ?_
                      refine n_mmax cs_X11_370 (Nat.le_of_ble_eq_true rfl) dX11_count_173 ⟨Nat.le_of_ble_eq_true rfl, Nat.le_of_ble_eq_true rfl⟩ ⟨Nat.le_refl _, Nat.le_refl _⟩ ?_
                      cases h
                      exact n_iret dX11_count_176 rfl rfl (Nat.le_refl _) (Nat.le_refl _) ⟨rfl, rfl⟩
                    · have h := yb_ifn c10 h
                      by_cases c11 : a1 = (10 : Int32)
                      · have h := yb_ifp c11 h
                        refine n_tableIn (off := 176) 177 dX11_count_1 (by rw [c11]; decide) (by rw [c11]; decide) (by rw [c11]; decide) (by decide) ?_
                        refine n_aload_n (i := 0) dX11_count_177 rfl rfl ?_
                        refine p_getr fl_X11_49 (sh_0 _ _) rfl (rR_0_5 _ _) dX11_count_178 ?_
                        refine p_geti fl_X11_376 (sh_172 _ _) rfl dX11_count_181 ?_
                        cases h
                        exact n_iret dX11_count_184 rfl rfl (Nat.le_refl _) (Nat.le_refl _) ⟨rfl, rfl⟩
                      · have h := yb_ifn c11 h
                        by_cases c12 : a1 = (11 : Int32)
                        · have h := yb_ifp c12 h
                          refine n_tableIn (off := 184) 185 dX11_count_1 (by rw [c12]; decide) (by rw [c12]; decide) (by rw [c12]; decide) (by decide) ?_
                          refine n_aload_n (i := 0) dX11_count_185 rfl rfl ?_
                          refine p_getr fl_X11_49 (sh_0 _ _) rfl (rR_0_5 _ _) dX11_count_186 ?_
                          refine p_geti fl_X11_379 (sh_172 _ _) rfl dX11_count_189 ?_
                          cases h
                          exact n_iret dX11_count_192 rfl rfl (Nat.le_refl _) (Nat.le_refl _) ⟨rfl, rfl⟩
                        · have h := yb_ifn c12 h
                          by_cases c13 : a1 = (12 : Int32)
                          · have h := yb_ifp c13 h
                            refine n_tableIn (off := 192) 193 dX11_count_1 (by rw [c13]; decide) (by rw [c13]; decide) (by rw [c13]; decide) (by decide) ?_
                            refine n_aload_n (i := 0) dX11_count_193 rfl rfl ?_
                            refine p_getr fl_X11_10 (sh_0 _ _) rfl (rR_0_0 _ _) dX11_count_194 ?_
                            refine p_getr fl_X11_128 (sh_1 _ _) rfl (rR_1_3 _ _) dX11_count_197 ?_
                            refine p_geti fl_X11_382 (sh_41 _ _) rfl dX11_count_200 ?_
                            cases h
                            exact n_iret dX11_count_203 rfl rfl (Nat.le_refl _) (Nat.le_refl _) ⟨rfl, rfl⟩
                          · have h := yb_ifn c13 h
                            refine n_tableOut 204 dX11_count_1 (by have z0 := lv_neT c1 (a := 0) (by decide); have z1 := lv_neT c2 (a := 1) (by decide); have z2 := lv_neT c3 (a := 2) (by decide); have z3 := lv_neT c4 (a := 3) (by decide); have z4 := lv_neT c5 (a := 4) (by decide); have z5 := lv_neT c6 (a := 5) (by decide); have z6 := lv_neT c7 (a := 6) (by decide); have z7 := lv_neT c8 (a := 7) (by decide); have z8 := lv_neT c9 (a := 8) (by decide); have z9 := lv_neT c10 (a := 9) (by decide); have z10 := lv_neT c11 (a := 10) (by decide); have z11 := lv_neT c12 (a := 11) (by decide); have z12 := lv_neT c13 (a := 12) (by decide); omega) (by decide) ?_
                            refine n_iconst (-1 : Int32) dX11_count_204 ic_m1 ?_
                            cases h
                            exact n_iret dX11_count_205 rfl rfl (Nat.le_refl _) (Nat.le_refl _) ⟨rfl, rfl⟩
set_option maxHeartbeats 4000000 in
set_option maxRecDepth 20000 in
theorem t_X11_end {G : yb_G} {X : List (FieldType × Nat)} {a1 : Int32} {s : yb_S} {out : (Int32 × yb_S)} (h : f_X11_end a1 s = some out) : Ct G yX11_end cX11_end 2 (Option.some .boolean) (yb_rm 1) [.ref (yb_ad G 0), .int a1] (yb_mk s X) (yb_qi X out.2 out.1) := by
  refine Ct.of (own := RX11) (ini := false) (vs := [some (.ref (yb_ad G 0)), some (.int a1)]) ⟨rfl, by decide +kernel⟩ (fun h => by cases h) (Nat.le_of_ble_eq_true rfl) rfl ?_
  unfold f_X11_end at h
  refine n_iload_n (i := 1) dX11_end_0 rfl rfl ?_
  refine n_if_lt 15 dX11_end_1 (by decide) (fun c1 => ?_) (fun c1 => ?_)
  · have h := yb_ifp c1 h
    refine n_iconst (0 : Int32) dX11_end_15 ic_0 ?_
    cases h
    exact n_iret dX11_end_16 rfl (by decide) (Nat.le_refl _) (Nat.le_refl _) ⟨rfl, rfl⟩
  · have h := yb_ifn c1 h
    refine n_iload_n (i := 1) dX11_end_4 rfl rfl ?_
    refine n_aload_n (i := 0) dX11_end_5 rfl rfl ?_
    refine p_getr fl_X11_19 (sh_0 _ _) rfl (rR_0_1 _ _) dX11_end_6 ?_
    refine p_geti fl_X11_188 (sh_92 _ _) rfl dX11_end_9 ?_
    refine n_icmp_le 17 dX11_end_12 (by decide) (fun c2 => ?_) (fun c2 => ?_)
    · have h := yb_ifp c2 h
      refine n_aload_n (i := 0) dX11_end_17 rfl rfl ?_
      refine p_getr fl_X11_19 (sh_0 _ _) rfl (rR_0_1 _ _) dX11_end_18 ?_
      refine n_iload_n (i := 1) dX11_end_21 rfl rfl ?_
      obtain ⟨s3, hs3, h⟩ := yb_bind h
      refine p_puti hs3 fp_X11_188 (sh_92 _ _) rfl rfl rfl dX11_end_22 ?_
      refine n_iconst (1 : Int32) dX11_end_25 ic_1 ?_
      cases h
      exact n_iret dX11_end_26 rfl (by decide) (Nat.le_refl _) (Nat.le_refl _) ⟨rfl, rfl⟩
    · have h := yb_ifn c2 h
      refine n_iconst (0 : Int32) dX11_end_15 ic_0 ?_
      cases h
      exact n_iret dX11_end_16 rfl (by decide) (Nat.le_refl _) (Nat.le_refl _) ⟨rfl, rfl⟩
set_option maxHeartbeats 4000000 in
set_option maxRecDepth 20000 in
theorem t_X11_ended {G : yb_G} {X : List (FieldType × Nat)} {a1 : Int32} {a2 : Int32} {s : yb_S} {out : Int32} (h : f_X11_ended a1 a2 s = some out) : Ct G yX11_ended cX11_ended 3 (Option.some .int) (yb_rm 3) [.ref (yb_ad G 0), .int a1, .int a2] (yb_mk s X) (yb_qi X s out) := by
  refine Ct.of (own := RX11) (ini := false) (vs := [some (.ref (yb_ad G 0)), some (.int a1), some (.int a2)]) ⟨rfl, by decide +kernel⟩ (fun h => by cases h) (Nat.le_of_ble_eq_true rfl) rfl ?_
  unfold f_X11_ended at h
  refine n_aload_n (i := 0) dX11_ended_0 rfl rfl ?_
  refine n_iload_n (i := 1) dX11_ended_1 rfl rfl ?_
  obtain ⟨q1, hq1, h⟩ := yb_bind h
  refine p_callVi (As := [.int a1]) (t_X11_hasEnded hq1) cv_X11_271 (sh_0 _ _) rfl rfl (Nat.le_of_ble_eq_true rfl) dX11_ended_2 (yb_rok (Nat.le_of_ble_eq_true rfl) (by decide)) ⟨rfl, rfl⟩ ⟨Nat.le_refl _, Nat.le_refl _⟩ (fun k2 => ?_)
  refine n_if_eq 17 dX11_ended_5 (by decide) (fun c3 => ?_) (fun c3 => ?_)
  · have h := yb_ifp c3 h
    refine n_iconst (-1 : Int32) dX11_ended_17 ic_m1 ?_
    cases h
    exact n_iret dX11_ended_18 rfl rfl (Nat.le_refl _) (Nat.le_refl _) ⟨rfl, rfl⟩
  · have h := yb_ifn c3 h
    refine n_iload_n (i := 2) dX11_ended_8 rfl rfl ?_
    refine n_if_lt 17 dX11_ended_9 (by decide) (fun c4 => ?_) (fun c4 => ?_)
    · have h := yb_ifp c4 h
      refine n_iconst (-1 : Int32) dX11_ended_17 ic_m1 ?_
      cases h
      exact n_iret dX11_ended_18 rfl rfl (Nat.le_refl _) (Nat.le_refl _) ⟨rfl, rfl⟩
    · have h := yb_ifn c4 h
      refine n_iload_n (i := 2) dX11_ended_12 rfl rfl ?_
      refine n_iconst (4 : Int32) dX11_ended_13 ic_4 ?_
      refine n_icmp_le 19 dX11_ended_14 (by decide) (fun c5 => ?_) (fun c5 => ?_)
      · have h := yb_ifp c5 h
        refine n_aload_n (i := 0) dX11_ended_19 rfl rfl ?_
        refine p_getr fl_X11_42 (sh_0 _ _) rfl (rR_0_4 _ _) dX11_ended_20 ?_
        refine n_iload_n (i := 1) dX11_ended_23 rfl rfl ?_
        refine n_iload_n (i := 2) dX11_ended_24 rfl rfl ?_
        refine n_aload_n (i := 0) dX11_ended_25 rfl rfl ?_
        refine p_getr fl_X11_10 (sh_0 _ _) rfl (rR_0_0 _ _) dX11_ended_26 ?_
        refine p_getr fl_X11_100 (sh_1 _ _) rfl (rR_1_2 _ _) dX11_ended_29 ?_
        obtain ⟨q6, hq6, h⟩ := yb_bind h
        refine p_callVi (As := [.int a1, .int a2, .ref (yb_ad G 21)]) (t_X0_numberOf_21 hq6) cv_X11_345 (sh_137 _ _) rfl rfl (Nat.le_of_ble_eq_true rfl) dX11_ended_32 (yb_rok (Nat.le_of_ble_eq_true rfl) (by decide)) ⟨rfl, rfl⟩ ⟨Nat.le_refl _, Nat.le_refl _⟩ (fun k7 => ?_)
        cases h
        exact n_iret dX11_ended_35 rfl rfl (Nat.le_refl _) (Nat.le_refl _) ⟨rfl, rfl⟩
      · have h := yb_ifn c5 h
        refine n_iconst (-1 : Int32) dX11_ended_17 ic_m1 ?_
        cases h
        exact n_iret dX11_ended_18 rfl rfl (Nat.le_refl _) (Nat.le_refl _) ⟨rfl, rfl⟩
set_option maxHeartbeats 4000000 in
set_option maxRecDepth 20000 in
theorem tj_X11_ends_65 {G : yb_G} {X : List (FieldType × Nat)} {rc21 : (Int32 → Int32 → Int32 → yb_S → Option (Int32 × yb_S))} {x1 : Int32} {x2 : Int32} {x3 : Int32} {x4 : Int32} {s : yb_S} {out : (Int32 × yb_S)} (hrc21 : ∀ (x2' : Int32) (x3' : Int32) (x4' : Int32) (s' : yb_S), rc21 x2' x3' x4' s' = some out → Rn G RX11 cX11_ends 6 (Option.some .int) false (yb_rm 6) (yb_qi X out.2 out.1) 0 0 21 [some (.ref (yb_ad G 0)), some (.int x1), some (.int x2'), some (.int x3'), some (.int x4'), none] [] (yb_mk s' X)) (h : j_X11_ends_65 rc21 x1 x2 x3 x4 s = some out) : Rn G RX11 cX11_ends 6 (Option.some .int) false (yb_rm 6) (yb_qi X out.2 out.1) 0 0 65 [some (.ref (yb_ad G 0)), some (.int x1), some (.int x2), some (.int x3), some (.int x4), none] [] (yb_mk s X) := by
  unfold j_X11_ends_65 at h
  refine n_iinc (vs' := [some (.ref (yb_ad G 0)), some (.int x1), some (.int x2), some (.int x3), some (.int (x4 + (1 : Int32))), none]) dX11_ends_65 rfl (ii_1 _) (Nat.le_of_ble_eq_true rfl) rfl rfl ?_
  refine n_goto 21 dX11_ends_68 (by decide) ?_
  exact p_jump (hrc21 x2 x3 (x4 + (1 : Int32)) s h) (And.intro rfl (And.intro rfl (And.intro rfl (And.intro rfl (And.intro rfl trivial)))))
set_option maxHeartbeats 4000000 in
set_option maxRecDepth 20000 in
theorem tj_X11_ends_59 {G : yb_G} {X : List (FieldType × Nat)} {rc21 : (Int32 → Int32 → Int32 → yb_S → Option (Int32 × yb_S))} {x1 : Int32} {x4 : Int32} {x5 : Int32} {s : yb_S} {out : (Int32 × yb_S)} (hrc21 : ∀ (x2' : Int32) (x3' : Int32) (x4' : Int32) (s' : yb_S), rc21 x2' x3' x4' s' = some out → Rn G RX11 cX11_ends 6 (Option.some .int) false (yb_rm 6) (yb_qi X out.2 out.1) 0 0 21 [some (.ref (yb_ad G 0)), some (.int x1), some (.int x2'), some (.int x3'), some (.int x4'), none] [] (yb_mk s' X)) (h : j_X11_ends_59 rc21 x1 x4 x5 s = some out) : Rn G RX11 cX11_ends 6 (Option.some .int) false (yb_rm 6) (yb_qi X out.2 out.1) 0 0 59 [some (.ref (yb_ad G 0)), some (.int x1), none, none, some (.int x4), some (.int x5)] [] (yb_mk s X) := by
  unfold j_X11_ends_59 at h
  refine n_iload dX11_ends_59 rfl ?_
  refine n_istore_n (i := 2) (vs' := [some (.ref (yb_ad G 0)), some (.int x1), some (.int x4), none, some (.int x4), some (.int x5)]) dX11_ends_61 rfl (Nat.le_of_ble_eq_true rfl) rfl rfl ?_
  refine n_iload dX11_ends_62 rfl ?_
  refine n_istore_n (i := 3) (vs' := [some (.ref (yb_ad G 0)), some (.int x1), some (.int x4), some (.int x5), some (.int x4), some (.int x5)]) dX11_ends_64 rfl (Nat.le_of_ble_eq_true rfl) rfl rfl ?_
  exact p_jump (tj_X11_ends_65 hrc21 h) (And.intro rfl (And.intro rfl (And.intro rfl (And.intro rfl (And.intro rfl trivial)))))
set_option maxHeartbeats 4000000 in
set_option maxRecDepth 20000 in
theorem t_l_X11_ends_21 {G : yb_G} {X : List (FieldType × Nat)} {x1 : Int32} {out : (Int32 × yb_S)} : ∀ (k0 : Nat) (x2 : Int32) (x3 : Int32) (x4 : Int32) (s : yb_S), l_X11_ends_21 x1 k0 x2 x3 x4 s = some out → Rn G RX11 cX11_ends 6 (Option.some .int) false (yb_rm 6) (yb_qi X out.2 out.1) 0 0 21 [some (.ref (yb_ad G 0)), some (.int x1), some (.int x2), some (.int x3), some (.int x4), none] [] (yb_mk s X) := by
  intro k0
  induction k0 with
  | zero => intro x2 x3 x4 s h; cases h
  | succ k0 ih =>
    intro x2 x3 x4 s h
    have h : f_X11_ends_21 (fun x2 x3 x4 s => l_X11_ends_21 x1 k0 x2 x3 x4 s) x1 x2 x3 x4 s = some out := h
    have hrc21 := ih
    unfold f_X11_ends_21 at h
    refine n_iload dX11_ends_21 rfl ?_
    refine n_aload_n (i := 0) dX11_ends_23 rfl rfl ?_
    refine p_getr fl_X11_10 (sh_0 _ _) rfl (rR_0_0 _ _) dX11_ends_24 ?_
    refine p_getr fl_X11_77 (sh_1 _ _) rfl (rR_1_1 _ _) dX11_ends_27 ?_
    refine p_geti fl_X11_287 (sh_13 _ _) rfl dX11_ends_30 ?_
    refine n_icmp_ge 71 dX11_ends_33 (by decide) (fun c4 => ?_) (fun c4 => ?_)
    · have h := yb_ifp c4 h
      refine n_iload_n (i := 2) dX11_ends_71 rfl rfl ?_
      cases h
      exact n_iret dX11_ends_72 rfl rfl (Nat.le_refl _) (Nat.le_refl _) ⟨rfl, rfl⟩
    · have h := yb_ifn c4 h
      refine n_aload_n (i := 0) dX11_ends_36 rfl rfl ?_
      refine p_getr fl_X11_10 (sh_0 _ _) rfl (rR_0_0 _ _) dX11_ends_37 ?_
      refine n_iload_n (i := 1) dX11_ends_40 rfl rfl ?_
      refine n_iload dX11_ends_41 rfl ?_
      obtain ⟨q5, hq5, h⟩ := yb_bind h
      refine p_callVi (As := [.int x1, .int x4]) (t_X8_barOf hq5) cv_X11_224 (sh_1 _ _) rfl rfl (Nat.le_of_ble_eq_true rfl) dX11_ends_43 (yb_rok (Nat.le_of_ble_eq_true rfl) (by decide)) ⟨rfl, rfl⟩ ⟨Nat.le_refl _, Nat.le_refl _⟩ (fun k6 => ?_)
      refine n_istore (i := 5) (vs' := [some (.ref (yb_ad G 0)), some (.int x1), some (.int x2), some (.int x3), some (.int x4), some (.int q5.1)]) dX11_ends_46 (Nat.le_of_ble_eq_true rfl) rfl rfl ?_
      refine n_iload_n (i := 2) dX11_ends_48 rfl rfl ?_
      refine n_iconst (-1 : Int32) dX11_ends_49 ic_m1 ?_
      refine n_icmp_eq 59 dX11_ends_50 (by decide) (fun c7 => ?_) (fun c7 => ?_)
      · have h := yb_ifp c7 h
        exact p_jump (tj_X11_ends_59 hrc21 h) (And.intro rfl (And.intro rfl (And.intro rfl (And.intro rfl trivial))))
      · have h := yb_ifn c7 h
        refine n_iload dX11_ends_53 rfl ?_
        refine n_iload_n (i := 3) dX11_ends_55 rfl rfl ?_
        refine n_icmp_ge 65 dX11_ends_56 (by decide) (fun c8 => ?_) (fun c8 => ?_)
        · have h := yb_ifp c8 h
          exact p_jump (tj_X11_ends_65 hrc21 h) (And.intro rfl (And.intro rfl (And.intro rfl (And.intro rfl (And.intro rfl trivial)))))
        · have h := yb_ifn c8 h
          exact p_jump (tj_X11_ends_59 hrc21 h) (And.intro rfl (And.intro rfl (And.intro rfl (And.intro rfl trivial))))
set_option maxHeartbeats 4000000 in
set_option maxRecDepth 20000 in
theorem tl_X11_ends_21 {G : yb_G} {X : List (FieldType × Nat)} {x1 : Int32} {out : (Int32 × yb_S)} {x2 : Int32} {x3 : Int32} {x4 : Int32} {s : yb_S} (h : l_X11_ends_21 x1 yb_N x2 x3 x4 s = some out) : Rn G RX11 cX11_ends 6 (Option.some .int) false (yb_rm 6) (yb_qi X out.2 out.1) 0 0 21 [some (.ref (yb_ad G 0)), some (.int x1), some (.int x2), some (.int x3), some (.int x4), none] [] (yb_mk s X) := t_l_X11_ends_21 _ _ _ _ _ h
set_option maxHeartbeats 4000000 in
set_option maxRecDepth 20000 in
theorem t_X11_ends {G : yb_G} {X : List (FieldType × Nat)} {a1 : Int32} {s : yb_S} {out : (Int32 × yb_S)} (h : f_X11_ends a1 s = some out) : Ct G yX11_ends cX11_ends 6 (Option.some .int) (yb_rm 6) [.ref (yb_ad G 0), .int a1] (yb_mk s X) (yb_qi X out.2 out.1) := by
  refine Ct.of (own := RX11) (ini := false) (vs := [some (.ref (yb_ad G 0)), some (.int a1), none, none, none, none]) ⟨rfl, by decide +kernel⟩ (fun h => by cases h) (Nat.le_of_ble_eq_true rfl) rfl ?_
  unfold f_X11_ends at h
  refine n_aload_n (i := 0) dX11_ends_0 rfl rfl ?_
  refine p_getr fl_X11_10 (sh_0 _ _) rfl (rR_0_0 _ _) dX11_ends_1 ?_
  refine n_iload_n (i := 1) dX11_ends_4 rfl rfl ?_
  refine n_iconst (0 : Int32) dX11_ends_5 ic_0 ?_
  obtain ⟨q1, hq1, h⟩ := yb_bind h
  refine p_callVi (As := [.int a1, .int (0 : Int32)]) (t_X8_isIn hq1) cv_X11_240 (sh_1 _ _) rfl rfl (Nat.le_of_ble_eq_true rfl) dX11_ends_6 (yb_rok (Nat.le_of_ble_eq_true rfl) (by decide)) ⟨rfl, rfl⟩ ⟨Nat.le_refl _, Nat.le_refl _⟩ (fun k2 => ?_)
  refine n_if_ne 14 dX11_ends_9 (by decide) (fun c3 => ?_) (fun c3 => ?_)
  · have h := yb_ifn c3 h
    refine n_iconst (-1 : Int32) dX11_ends_14 ic_m1 ?_
    refine n_istore_n (i := 2) (vs' := [some (.ref (yb_ad G 0)), some (.int a1), some (.int (-1 : Int32)), none, none, none]) dX11_ends_15 rfl (Nat.le_of_ble_eq_true rfl) rfl rfl ?_
    refine n_iconst (0 : Int32) dX11_ends_16 ic_0 ?_
    refine n_istore_n (i := 3) (vs' := [some (.ref (yb_ad G 0)), some (.int a1), some (.int (-1 : Int32)), some (.int (0 : Int32)), none, none]) dX11_ends_17 rfl (Nat.le_of_ble_eq_true rfl) rfl rfl ?_
    refine n_iconst (0 : Int32) dX11_ends_18 ic_0 ?_
    refine n_istore (i := 4) (vs' := [some (.ref (yb_ad G 0)), some (.int a1), some (.int (-1 : Int32)), some (.int (0 : Int32)), some (.int (0 : Int32)), none]) dX11_ends_19 (Nat.le_of_ble_eq_true rfl) rfl rfl ?_
    exact p_jump (tl_X11_ends_21 h) (And.intro rfl (And.intro rfl (And.intro rfl (And.intro rfl (And.intro rfl trivial)))))
  · have h := yb_ifp c3 h
    refine n_iconst (-1 : Int32) dX11_ends_12 ic_m1 ?_
    cases h
    exact n_iret dX11_ends_13 rfl rfl (Nat.le_refl _) (Nat.le_refl _) ⟨rfl, rfl⟩
set_option maxHeartbeats 4000000 in
set_option maxRecDepth 20000 in
theorem t_X2_add {G : yb_G} {X : List (FieldType × Nat)} {a1 : Int32} {a2 : Int32} {a3 : Int32} {s : yb_S} {out : (Int32 × yb_S)} (h : f_X2_add a1 a2 a3 s = some out) : Ct G yX2_add cX2_add 4 (Option.some .int) (yb_rm 1) [.ref (yb_ad G 21), .int a1, .int a2, .int a3] (yb_mk s X) (yb_qi X out.2 out.1) := by
  refine Ct.of (own := RX2) (ini := false) (vs := [some (.ref (yb_ad G 21)), some (.int a1), some (.int a2), some (.int a3)]) ⟨rfl, by decide +kernel⟩ (fun h => by cases h) (Nat.le_of_ble_eq_true rfl) rfl ?_
  unfold f_X2_add at h
  refine n_aload_n (i := 0) dX2_add_0 rfl rfl ?_
  refine p_geti fl_X2_53 (sh_21 _ _) rfl dX2_add_1 ?_
  refine n_bipush (24 : Int32) dX2_add_4 bp_24 ?_
  refine n_icmp_lt 11 dX2_add_6 (by decide) (fun c1 => ?_) (fun c1 => ?_)
  · have h := yb_ifp c1 h
    refine n_aload_n (i := 0) dX2_add_11 rfl rfl ?_
    refine p_getr fl_X2_9 (sh_21 _ _) rfl (rR_21_1 _ _) dX2_add_12 ?_
    refine n_aload_n (i := 0) dX2_add_15 rfl rfl ?_
    refine p_geti fl_X2_53 (sh_21 _ _) rfl dX2_add_16 ?_
    refine n_iload_n (i := 1) dX2_add_19 rfl rfl ?_
    refine n_bipush (100 : Int32) dX2_add_20 bp_100 ?_
    refine n_idiv dX2_add_22 (by decide) ?_
    obtain ⟨s2, hs2, h⟩ := yb_bind h
    refine p_iast hs2 (sh_22 _ _) dX2_add_23 ?_
    refine n_aload_n (i := 0) dX2_add_24 rfl rfl ?_
    refine p_getr fl_X2_15 (sh_21 _ _) rfl (rR_21_2 _ _) dX2_add_25 ?_
    refine n_aload_n (i := 0) dX2_add_28 rfl rfl ?_
    refine p_geti fl_X2_53 (sh_21 _ _) rfl dX2_add_29 ?_
    refine n_iload_n (i := 1) dX2_add_32 rfl rfl ?_
    refine n_bipush (10 : Int32) dX2_add_33 bp_10 ?_
    refine n_idiv dX2_add_35 (by decide) ?_
    refine n_bipush (10 : Int32) dX2_add_36 bp_10 ?_
    refine p_irem (by decide) dX2_add_38 ?_
    obtain ⟨s3, hs3, h⟩ := yb_bind h
    refine p_iast hs3 (sh_23 _ _) dX2_add_39 ?_
    refine n_aload_n (i := 0) dX2_add_40 rfl rfl ?_
    refine p_getr fl_X2_18 (sh_21 _ _) rfl (rR_21_3 _ _) dX2_add_41 ?_
    refine n_aload_n (i := 0) dX2_add_44 rfl rfl ?_
    refine p_geti fl_X2_53 (sh_21 _ _) rfl dX2_add_45 ?_
    refine n_iload_n (i := 1) dX2_add_48 rfl rfl ?_
    refine n_bipush (10 : Int32) dX2_add_49 bp_10 ?_
    refine p_irem (by decide) dX2_add_51 ?_
    obtain ⟨s4, hs4, h⟩ := yb_bind h
    refine p_iast hs4 (sh_24 _ _) dX2_add_52 ?_
    refine n_aload_n (i := 0) dX2_add_53 rfl rfl ?_
    refine p_getr fl_X2_21 (sh_21 _ _) rfl (rR_21_4 _ _) dX2_add_54 ?_
    refine n_aload_n (i := 0) dX2_add_57 rfl rfl ?_
    refine p_geti fl_X2_53 (sh_21 _ _) rfl dX2_add_58 ?_
    refine n_iload_n (i := 2) dX2_add_61 rfl rfl ?_
    refine n_bipush (100 : Int32) dX2_add_62 bp_100 ?_
    refine n_idiv dX2_add_64 (by decide) ?_
    obtain ⟨s5, hs5, h⟩ := yb_bind h
    refine p_iast hs5 (sh_25 _ _) dX2_add_65 ?_
    refine n_aload_n (i := 0) dX2_add_66 rfl rfl ?_
    refine p_getr fl_X2_24 (sh_21 _ _) rfl (rR_21_5 _ _) dX2_add_67 ?_
    refine n_aload_n (i := 0) dX2_add_70 rfl rfl ?_
    refine p_geti fl_X2_53 (sh_21 _ _) rfl dX2_add_71 ?_
    refine n_iload_n (i := 2) dX2_add_74 rfl rfl ?_
    refine n_bipush (10 : Int32) dX2_add_75 bp_10 ?_
    refine n_idiv dX2_add_77 (by decide) ?_
    refine n_bipush (10 : Int32) dX2_add_78 bp_10 ?_
    refine p_irem (by decide) dX2_add_80 ?_
    obtain ⟨s6, hs6, h⟩ := yb_bind h
    refine p_iast hs6 (sh_26 _ _) dX2_add_81 ?_
    refine n_aload_n (i := 0) dX2_add_82 rfl rfl ?_
    refine p_getr fl_X2_27 (sh_21 _ _) rfl (rR_21_6 _ _) dX2_add_83 ?_
    refine n_aload_n (i := 0) dX2_add_86 rfl rfl ?_
    refine p_geti fl_X2_53 (sh_21 _ _) rfl dX2_add_87 ?_
    refine n_iload_n (i := 2) dX2_add_90 rfl rfl ?_
    refine n_bipush (10 : Int32) dX2_add_91 bp_10 ?_
    refine p_irem (by decide) dX2_add_93 ?_
    obtain ⟨s7, hs7, h⟩ := yb_bind h
    refine p_iast hs7 (sh_27 _ _) dX2_add_94 ?_
    refine n_aload_n (i := 0) dX2_add_95 rfl rfl ?_
    refine p_getr fl_X2_30 (sh_21 _ _) rfl (rR_21_7 _ _) dX2_add_96 ?_
    refine n_aload_n (i := 0) dX2_add_99 rfl rfl ?_
    refine p_geti fl_X2_53 (sh_21 _ _) rfl dX2_add_100 ?_
    refine n_iconst (0 : Int32) dX2_add_103 ic_0 ?_
    obtain ⟨s8, hs8, h⟩ := yb_bind h
    refine p_iast hs8 (sh_28 _ _) dX2_add_104 ?_
    refine n_aload_n (i := 0) dX2_add_105 rfl rfl ?_
    refine p_getr fl_X2_33 (sh_21 _ _) rfl (rR_21_8 _ _) dX2_add_106 ?_
    refine n_aload_n (i := 0) dX2_add_109 rfl rfl ?_
    refine p_geti fl_X2_53 (sh_21 _ _) rfl dX2_add_110 ?_
    refine n_iconst (-1 : Int32) dX2_add_113 ic_m1 ?_
    obtain ⟨s9, hs9, h⟩ := yb_bind h
    refine p_iast hs9 (sh_29 _ _) dX2_add_114 ?_
    refine n_aload_n (i := 0) dX2_add_115 rfl rfl ?_
    refine p_getr fl_X2_36 (sh_21 _ _) rfl (rR_21_9 _ _) dX2_add_116 ?_
    refine n_aload_n (i := 0) dX2_add_119 rfl rfl ?_
    refine p_geti fl_X2_53 (sh_21 _ _) rfl dX2_add_120 ?_
    refine n_iconst (-1 : Int32) dX2_add_123 ic_m1 ?_
    obtain ⟨s10, hs10, h⟩ := yb_bind h
    refine p_iast hs10 (sh_30 _ _) dX2_add_124 ?_
    refine n_aload_n (i := 0) dX2_add_125 rfl rfl ?_
    refine p_getr fl_X2_39 (sh_21 _ _) rfl (rR_21_10 _ _) dX2_add_126 ?_
    refine n_aload_n (i := 0) dX2_add_129 rfl rfl ?_
    refine p_geti fl_X2_53 (sh_21 _ _) rfl dX2_add_130 ?_
    refine n_iconst (0 : Int32) dX2_add_133 ic_0 ?_
    obtain ⟨s11, hs11, h⟩ := yb_bind h
    refine p_iast hs11 (sh_31 _ _) dX2_add_134 ?_
    refine n_aload_n (i := 0) dX2_add_135 rfl rfl ?_
    refine p_getr fl_X2_42 (sh_21 _ _) rfl (rR_21_11 _ _) dX2_add_136 ?_
    refine n_aload_n (i := 0) dX2_add_139 rfl rfl ?_
    refine p_geti fl_X2_53 (sh_21 _ _) rfl dX2_add_140 ?_
    refine n_iload_n (i := 3) dX2_add_143 rfl rfl ?_
    obtain ⟨s12, hs12, h⟩ := yb_bind h
    refine p_iast hs12 (sh_32 _ _) dX2_add_144 ?_
    refine n_aload_n (i := 0) dX2_add_145 rfl rfl ?_
    refine p_getr fl_X2_45 (sh_21 _ _) rfl (rR_21_12 _ _) dX2_add_146 ?_
    refine n_aload_n (i := 0) dX2_add_149 rfl rfl ?_
    refine p_geti fl_X2_53 (sh_21 _ _) rfl dX2_add_150 ?_
    refine n_iconst (-1 : Int32) dX2_add_153 ic_m1 ?_
    obtain ⟨s13, hs13, h⟩ := yb_bind h
    refine p_iast hs13 (sh_33 _ _) dX2_add_154 ?_
    refine n_aload_n (i := 0) dX2_add_155 rfl rfl ?_
    refine n_dup dX2_add_156 rfl ?_
    refine p_geti fl_X2_53 (sh_21 _ _) rfl dX2_add_157 ?_
    refine n_iconst (1 : Int32) dX2_add_160 ic_1 ?_
    refine n_iadd dX2_add_161 ?_
    obtain ⟨s14, hs14, h⟩ := yb_bind h
    refine p_puti hs14 fp_X2_53 (sh_21 _ _) rfl rfl rfl dX2_add_162 ?_
    refine n_aload_n (i := 0) dX2_add_165 rfl rfl ?_
    refine p_geti fl_X2_53 (sh_21 _ _) rfl dX2_add_166 ?_
    refine n_iconst (1 : Int32) dX2_add_169 ic_1 ?_
    refine n_isub dX2_add_170 ?_
    cases h
    exact n_iret dX2_add_171 rfl rfl (Nat.le_refl _) (Nat.le_refl _) ⟨rfl, rfl⟩
  · have h := yb_ifn c1 h
    refine n_iconst (-1 : Int32) dX2_add_9 ic_m1 ?_
    cases h
    exact n_iret dX2_add_10 rfl rfl (Nat.le_refl _) (Nat.le_refl _) ⟨rfl, rfl⟩
set_option maxHeartbeats 4000000 in
set_option maxRecDepth 20000 in
theorem t_X11_family {G : yb_G} {X : List (FieldType × Nat)} {a1 : Int32} {a2 : Int32} {s : yb_S} {out : (Int32 × yb_S)} (h : f_X11_family a1 a2 s = some out) : Ct G yX11_family cX11_family 4 (Option.some .int) (yb_rm 2) [.ref (yb_ad G 0), .int a1, .int a2] (yb_mk s X) (yb_qi X out.2 out.1) := by
  refine Ct.of (own := RX11) (ini := false) (vs := [some (.ref (yb_ad G 0)), some (.int a1), some (.int a2), none]) ⟨rfl, by decide +kernel⟩ (fun h => by cases h) (Nat.le_of_ble_eq_true rfl) rfl ?_
  unfold f_X11_family at h
  refine n_iload_n (i := 1) dX11_family_0 rfl rfl ?_
  obtain ⟨q1, hq1, h⟩ := yb_bind h
  refine p_callSi (As := [.int a1]) (t_X11_canBeHeads hq1) cs_X11_94 rfl rfl (Nat.le_of_ble_eq_true rfl) dX11_family_1 (yb_rok (Nat.le_of_ble_eq_true rfl) (by decide)) ⟨rfl, rfl⟩ ⟨Nat.le_refl _, Nat.le_refl _⟩ (fun k2 => ?_)
  refine n_if_eq 14 dX11_family_4 (by decide) (fun c3 => ?_) (fun c3 => ?_)
  · have h := yb_ifp c3 h
    refine n_iconst (-1 : Int32) dX11_family_14 ic_m1 ?_
    cases h
    exact n_iret dX11_family_15 rfl rfl (Nat.le_refl _) (Nat.le_refl _) ⟨rfl, rfl⟩
  · have h := yb_ifn c3 h
    refine n_iload_n (i := 2) dX11_family_7 rfl rfl ?_
    obtain ⟨q4, hq4, h⟩ := yb_bind h
    refine p_callSi (As := [.int a2]) (t_X11_canBeKind hq4) cs_X11_97 rfl rfl (Nat.le_of_ble_eq_true rfl) dX11_family_8 (yb_rok (Nat.le_of_ble_eq_true rfl) (by decide)) ⟨rfl, rfl⟩ ⟨Nat.le_refl _, Nat.le_refl _⟩ (fun k5 => ?_)
    refine n_if_ne 16 dX11_family_11 (by decide) (fun c6 => ?_) (fun c6 => ?_)
    · have h := yb_ifn c6 h
      refine n_aload_n (i := 0) dX11_family_16 rfl rfl ?_
      refine p_getr fl_X11_10 (sh_0 _ _) rfl (rR_0_0 _ _) dX11_family_17 ?_
      refine p_getr fl_X11_100 (sh_1 _ _) rfl (rR_1_2 _ _) dX11_family_20 ?_
      refine n_iload_n (i := 1) dX11_family_23 rfl rfl ?_
      refine n_iload_n (i := 2) dX11_family_24 rfl rfl ?_
      refine n_aload_n (i := 0) dX11_family_25 rfl rfl ?_
      refine p_getr fl_X11_10 (sh_0 _ _) rfl (rR_0_0 _ _) dX11_family_26 ?_
      refine p_geti fl_X11_104 (sh_1 _ _) rfl dX11_family_29 ?_
      obtain ⟨q7, hq7, h⟩ := yb_bind h
      refine p_callVi (As := [.int a1, .int a2, .int (s.1 1 5)]) (t_X2_add hq7) cv_X11_107 (sh_21 _ _) rfl rfl (Nat.le_of_ble_eq_true rfl) dX11_family_32 (yb_rok (Nat.le_of_ble_eq_true rfl) (by decide)) ⟨rfl, rfl⟩ ⟨Nat.le_refl _, Nat.le_refl _⟩ (fun k8 => ?_)
      refine n_istore_n (i := 3) (vs' := [some (.ref (yb_ad G 0)), some (.int a1), some (.int a2), some (.int q7.1)]) dX11_family_35 rfl (Nat.le_of_ble_eq_true rfl) rfl rfl ?_
      refine n_iload_n (i := 3) dX11_family_36 rfl rfl ?_
      refine n_iconst (-1 : Int32) dX11_family_37 ic_m1 ?_
      refine n_icmp_eq 57 dX11_family_38 (by decide) (fun c9 => ?_) (fun c9 => ?_)
      · have h := yb_ifp c9 h
        refine n_iload_n (i := 3) dX11_family_57 rfl rfl ?_
        cases h
        exact n_iret dX11_family_58 rfl rfl (Nat.le_refl _) (Nat.le_refl _) ⟨rfl, rfl⟩
      · have h := yb_ifn c9 h
        refine n_aload_n (i := 0) dX11_family_41 rfl rfl ?_
        refine p_getr fl_X11_10 (sh_0 _ _) rfl (rR_0_0 _ _) dX11_family_42 ?_
        refine n_dup dX11_family_45 rfl ?_
        refine p_geti fl_X11_110 (sh_1 _ _) rfl dX11_family_46 ?_
        refine n_iload_n (i := 1) dX11_family_49 rfl rfl ?_
        refine n_bipush (100 : Int32) dX11_family_50 bp_100 ?_
        refine n_idiv dX11_family_52 (by decide) ?_
        refine n_iadd dX11_family_53 ?_
        obtain ⟨s10, hs10, h⟩ := yb_bind h
        refine p_puti hs10 fp_X11_110 (sh_1 _ _) rfl rfl rfl dX11_family_54 ?_
        refine n_iload_n (i := 3) dX11_family_57 rfl rfl ?_
        cases h
        exact n_iret dX11_family_58 rfl rfl (Nat.le_refl _) (Nat.le_refl _) ⟨rfl, rfl⟩
    · have h := yb_ifp c6 h
      refine n_iconst (-1 : Int32) dX11_family_14 ic_m1 ?_
      cases h
      exact n_iret dX11_family_15 rfl rfl (Nat.le_refl _) (Nat.le_refl _) ⟨rfl, rfl⟩
set_option maxHeartbeats 4000000 in
set_option maxRecDepth 20000 in
theorem t_X9_addToken {G : yb_G} {X : List (FieldType × Nat)} {a1 : Int32} {a2 : Int32} {a3 : Int32} {s : yb_S} {out : yb_S} (h : f_X9_addToken a1 a2 a3 s = some out) : Ct G yX9_addToken cX9_addToken 4 none (yb_rm 1) [.ref (yb_ad G 92), .int a1, .int a2, .int a3] (yb_mk s X) (yb_qv X out) := by
  refine Ct.of (own := RX9) (ini := false) (vs := [some (.ref (yb_ad G 92)), some (.int a1), some (.int a2), some (.int a3)]) ⟨rfl, by decide +kernel⟩ (fun h => by cases h) (Nat.le_of_ble_eq_true rfl) rfl ?_
  unfold f_X9_addToken at h
  refine n_aload_n (i := 0) dX9_addToken_0 rfl rfl ?_
  refine p_geti fl_X9_52 (sh_92 _ _) rfl dX9_addToken_1 ?_
  refine n_sipush (500 : Int32) dX9_addToken_4 sp_500 ?_
  refine n_icmp_gt 50 dX9_addToken_7 (by decide) (fun c1 => ?_) (fun c1 => ?_)
  · have h := yb_ifp c1 h
    cases h
    exact n_vret dX9_addToken_50 rfl (Nat.le_refl _) (Nat.le_refl _) ⟨rfl, rfl⟩
  · have h := yb_ifn c1 h
    refine n_aload_n (i := 0) dX9_addToken_10 rfl rfl ?_
    refine p_getr fl_X9_24 (sh_92 _ _) rfl (rR_92_7 _ _) dX9_addToken_11 ?_
    refine n_aload_n (i := 0) dX9_addToken_14 rfl rfl ?_
    refine p_geti fl_X9_52 (sh_92 _ _) rfl dX9_addToken_15 ?_
    refine n_iload_n (i := 1) dX9_addToken_18 rfl rfl ?_
    obtain ⟨s2, hs2, h⟩ := yb_bind h
    refine p_iast hs2 (sh_97 _ _) dX9_addToken_19 ?_
    refine n_aload_n (i := 0) dX9_addToken_20 rfl rfl ?_
    refine p_getr fl_X9_30 (sh_92 _ _) rfl (rR_92_9 _ _) dX9_addToken_21 ?_
    refine n_aload_n (i := 0) dX9_addToken_24 rfl rfl ?_
    refine p_geti fl_X9_52 (sh_92 _ _) rfl dX9_addToken_25 ?_
    refine n_iload_n (i := 2) dX9_addToken_28 rfl rfl ?_
    obtain ⟨s3, hs3, h⟩ := yb_bind h
    refine p_iast hs3 (sh_99 _ _) dX9_addToken_29 ?_
    refine n_aload_n (i := 0) dX9_addToken_30 rfl rfl ?_
    refine p_getr fl_X9_27 (sh_92 _ _) rfl (rR_92_8 _ _) dX9_addToken_31 ?_
    refine n_aload_n (i := 0) dX9_addToken_34 rfl rfl ?_
    refine p_geti fl_X9_52 (sh_92 _ _) rfl dX9_addToken_35 ?_
    refine n_iload_n (i := 3) dX9_addToken_38 rfl rfl ?_
    obtain ⟨s4, hs4, h⟩ := yb_bind h
    refine p_iast hs4 (sh_98 _ _) dX9_addToken_39 ?_
    refine n_aload_n (i := 0) dX9_addToken_40 rfl rfl ?_
    refine n_dup dX9_addToken_41 rfl ?_
    refine p_geti fl_X9_52 (sh_92 _ _) rfl dX9_addToken_42 ?_
    refine n_iconst (1 : Int32) dX9_addToken_45 ic_1 ?_
    refine n_iadd dX9_addToken_46 ?_
    obtain ⟨s5, hs5, h⟩ := yb_bind h
    refine p_puti hs5 fp_X9_52 (sh_92 _ _) rfl rfl rfl dX9_addToken_47 ?_
    cases h
    exact n_vret dX9_addToken_50 rfl (Nat.le_refl _) (Nat.le_refl _) ⟨rfl, rfl⟩
set_option maxHeartbeats 4000000 in
set_option maxRecDepth 20000 in
theorem t_X9_isLetter {G : yb_G} {X : List (FieldType × Nat)} {a0 : Int32} {s : yb_S} {out : Int32} (h : f_X9_isLetter a0 s = some out) : Ct G yX9_isLetter cX9_isLetter 1 (Option.some .boolean) (yb_rm 1) [.int a0] (yb_mk s X) (yb_qi X s out) := by
  refine Ct.of (own := RX9) (ini := false) (vs := [some (.int a0)]) ⟨rfl, by decide +kernel⟩ (fun h => by cases h) (Nat.le_of_ble_eq_true rfl) rfl ?_
  unfold f_X9_isLetter at h
  refine n_iload_n (i := 0) dX9_isLetter_0 rfl rfl ?_
  refine n_bipush (97 : Int32) dX9_isLetter_1 bp_97 ?_
  refine n_icmp_lt 16 dX9_isLetter_3 (by decide) (fun c1 => ?_) (fun c1 => ?_)
  · have h := yb_ifp c1 h
    refine n_iconst (0 : Int32) dX9_isLetter_16 ic_0 ?_
    cases h
    exact n_iret dX9_isLetter_17 rfl (by decide) (Nat.le_refl _) (Nat.le_refl _) ⟨rfl, rfl⟩
  · have h := yb_ifn c1 h
    refine n_iload_n (i := 0) dX9_isLetter_6 rfl rfl ?_
    refine n_bipush (122 : Int32) dX9_isLetter_7 bp_122 ?_
    refine n_icmp_gt 16 dX9_isLetter_9 (by decide) (fun c2 => ?_) (fun c2 => ?_)
    · have h := yb_ifp c2 h
      refine n_iconst (0 : Int32) dX9_isLetter_16 ic_0 ?_
      cases h
      exact n_iret dX9_isLetter_17 rfl (by decide) (Nat.le_refl _) (Nat.le_refl _) ⟨rfl, rfl⟩
    · have h := yb_ifn c2 h
      refine n_iconst (1 : Int32) dX9_isLetter_12 ic_1 ?_
      refine n_goto 17 dX9_isLetter_13 (by decide) ?_
      cases h
      exact n_iret dX9_isLetter_17 rfl (by decide) (Nat.le_refl _) (Nat.le_refl _) ⟨rfl, rfl⟩
set_option maxHeartbeats 4000000 in
set_option maxRecDepth 20000 in
theorem t_X9_isDigit {G : yb_G} {X : List (FieldType × Nat)} {a0 : Int32} {s : yb_S} {out : Int32} (h : f_X9_isDigit a0 s = some out) : Ct G yX9_isDigit cX9_isDigit 1 (Option.some .boolean) (yb_rm 1) [.int a0] (yb_mk s X) (yb_qi X s out) := by
  refine Ct.of (own := RX9) (ini := false) (vs := [some (.int a0)]) ⟨rfl, by decide +kernel⟩ (fun h => by cases h) (Nat.le_of_ble_eq_true rfl) rfl ?_
  unfold f_X9_isDigit at h
  refine n_iload_n (i := 0) dX9_isDigit_0 rfl rfl ?_
  refine n_bipush (48 : Int32) dX9_isDigit_1 bp_48 ?_
  refine n_icmp_lt 16 dX9_isDigit_3 (by decide) (fun c1 => ?_) (fun c1 => ?_)
  · have h := yb_ifp c1 h
    refine n_iconst (0 : Int32) dX9_isDigit_16 ic_0 ?_
    cases h
    exact n_iret dX9_isDigit_17 rfl (by decide) (Nat.le_refl _) (Nat.le_refl _) ⟨rfl, rfl⟩
  · have h := yb_ifn c1 h
    refine n_iload_n (i := 0) dX9_isDigit_6 rfl rfl ?_
    refine n_bipush (57 : Int32) dX9_isDigit_7 bp_57 ?_
    refine n_icmp_gt 16 dX9_isDigit_9 (by decide) (fun c2 => ?_) (fun c2 => ?_)
    · have h := yb_ifp c2 h
      refine n_iconst (0 : Int32) dX9_isDigit_16 ic_0 ?_
      cases h
      exact n_iret dX9_isDigit_17 rfl (by decide) (Nat.le_refl _) (Nat.le_refl _) ⟨rfl, rfl⟩
    · have h := yb_ifn c2 h
      refine n_iconst (1 : Int32) dX9_isDigit_12 ic_1 ?_
      refine n_goto 17 dX9_isDigit_13 (by decide) ?_
      cases h
      exact n_iret dX9_isDigit_17 rfl (by decide) (Nat.le_refl _) (Nat.le_refl _) ⟨rfl, rfl⟩
set_option maxHeartbeats 4000000 in
set_option maxRecDepth 20000 in
theorem t_X9_isSign {G : yb_G} {X : List (FieldType × Nat)} {a0 : Int32} {s : yb_S} {out : Int32} (h : f_X9_isSign a0 s = some out) : Ct G yX9_isSign cX9_isSign 1 (Option.some .boolean) (yb_rm 1) [.int a0] (yb_mk s X) (yb_qi X s out) := by
  refine Ct.of (own := RX9) (ini := false) (vs := [some (.int a0)]) ⟨rfl, by decide +kernel⟩ (fun h => by cases h) (Nat.le_of_ble_eq_true rfl) rfl ?_
  unfold f_X9_isSign at h
  refine n_iload_n (i := 0) dX9_isSign_0 rfl rfl ?_
  by_cases c1 : a0 = (40 : Int32)
  · have h := yb_ifp c1 h
    refine n_lookup (off := 107) 108 dX9_isSign_1 (by decide) (by rw [c1]; decide) (by decide) ?_
    refine n_iconst (1 : Int32) dX9_isSign_108 ic_1 ?_
    cases h
    exact n_iret dX9_isSign_109 rfl (by decide) (Nat.le_refl _) (Nat.le_refl _) ⟨rfl, rfl⟩
  · have h := yb_ifn c1 h
    by_cases c2 : a0 = (41 : Int32)
    · have h := yb_ifp c2 h
      refine n_lookup (off := 107) 108 dX9_isSign_1 (by decide) (by rw [c2]; decide) (by decide) ?_
      refine n_iconst (1 : Int32) dX9_isSign_108 ic_1 ?_
      cases h
      exact n_iret dX9_isSign_109 rfl (by decide) (Nat.le_refl _) (Nat.le_refl _) ⟨rfl, rfl⟩
    · have h := yb_ifn c2 h
      by_cases c3 : a0 = (42 : Int32)
      · have h := yb_ifp c3 h
        refine n_lookup (off := 107) 108 dX9_isSign_1 (by decide) (by rw [c3]; decide) (by decide) ?_
        refine n_iconst (1 : Int32) dX9_isSign_108 ic_1 ?_
        cases h
        exact n_iret dX9_isSign_109 rfl (by decide) (Nat.le_refl _) (Nat.le_refl _) ⟨rfl, rfl⟩
      · have h := yb_ifn c3 h
        by_cases c4 : a0 = (43 : Int32)
        · have h := yb_ifp c4 h
          refine n_lookup (off := 107) 108 dX9_isSign_1 (by decide) (by rw [c4]; decide) (by decide) ?_
          refine n_iconst (1 : Int32) dX9_isSign_108 ic_1 ?_
          cases h
          exact n_iret dX9_isSign_109 rfl (by decide) (Nat.le_refl _) (Nat.le_refl _) ⟨rfl, rfl⟩
        · have h := yb_ifn c4 h
          by_cases c5 : a0 = (45 : Int32)
          · have h := yb_ifp c5 h
            refine n_lookup (off := 107) 108 dX9_isSign_1 (by decide) (by rw [c5]; decide) (by decide) ?_
            refine n_iconst (1 : Int32) dX9_isSign_108 ic_1 ?_
            cases h
            exact n_iret dX9_isSign_109 rfl (by decide) (Nat.le_refl _) (Nat.le_refl _) ⟨rfl, rfl⟩
          · have h := yb_ifn c5 h
            by_cases c6 : a0 = (47 : Int32)
            · have h := yb_ifp c6 h
              refine n_lookup (off := 107) 108 dX9_isSign_1 (by decide) (by rw [c6]; decide) (by decide) ?_
              refine n_iconst (1 : Int32) dX9_isSign_108 ic_1 ?_
              cases h
              exact n_iret dX9_isSign_109 rfl (by decide) (Nat.le_refl _) (Nat.le_refl _) ⟨rfl, rfl⟩
            · have h := yb_ifn c6 h
              by_cases c7 : a0 = (59 : Int32)
              · have h := yb_ifp c7 h
                refine n_lookup (off := 107) 108 dX9_isSign_1 (by decide) (by rw [c7]; decide) (by decide) ?_
                refine n_iconst (1 : Int32) dX9_isSign_108 ic_1 ?_
                cases h
                exact n_iret dX9_isSign_109 rfl (by decide) (Nat.le_refl _) (Nat.le_refl _) ⟨rfl, rfl⟩
              · have h := yb_ifn c7 h
                by_cases c8 : a0 = (60 : Int32)
                · have h := yb_ifp c8 h
                  refine n_lookup (off := 107) 108 dX9_isSign_1 (by decide) (by rw [c8]; decide) (by decide) ?_
                  refine n_iconst (1 : Int32) dX9_isSign_108 ic_1 ?_
                  cases h
                  exact n_iret dX9_isSign_109 rfl (by decide) (Nat.le_refl _) (Nat.le_refl _) ⟨rfl, rfl⟩
                · have h := yb_ifn c8 h
                  by_cases c9 : a0 = (61 : Int32)
                  · have h := yb_ifp c9 h
                    refine n_lookup (off := 107) 108 dX9_isSign_1 (by decide) (by rw [c9]; decide) (by decide) ?_
                    refine n_iconst (1 : Int32) dX9_isSign_108 ic_1 ?_
                    cases h
                    exact n_iret dX9_isSign_109 rfl (by decide) (Nat.le_refl _) (Nat.le_refl _) ⟨rfl, rfl⟩
                  · have h := yb_ifn c9 h
                    by_cases c10 : a0 = (62 : Int32)
                    · have h := yb_ifp c10 h
                      refine n_lookup (off := 107) 108 dX9_isSign_1 (by decide) (by rw [c10]; decide) (by decide) ?_
                      refine n_iconst (1 : Int32) dX9_isSign_108 ic_1 ?_
                      cases h
                      exact n_iret dX9_isSign_109 rfl (by decide) (Nat.le_refl _) (Nat.le_refl _) ⟨rfl, rfl⟩
                    · have h := yb_ifn c10 h
                      by_cases c11 : a0 = (91 : Int32)
                      · have h := yb_ifp c11 h
                        refine n_lookup (off := 107) 108 dX9_isSign_1 (by decide) (by rw [c11]; decide) (by decide) ?_
                        refine n_iconst (1 : Int32) dX9_isSign_108 ic_1 ?_
                        cases h
                        exact n_iret dX9_isSign_109 rfl (by decide) (Nat.le_refl _) (Nat.le_refl _) ⟨rfl, rfl⟩
                      · have h := yb_ifn c11 h
                        by_cases c12 : a0 = (93 : Int32)
                        · have h := yb_ifp c12 h
                          refine n_lookup (off := 107) 108 dX9_isSign_1 (by decide) (by rw [c12]; decide) (by decide) ?_
                          refine n_iconst (1 : Int32) dX9_isSign_108 ic_1 ?_
                          cases h
                          exact n_iret dX9_isSign_109 rfl (by decide) (Nat.le_refl _) (Nat.le_refl _) ⟨rfl, rfl⟩
                        · have h := yb_ifn c12 h
                          refine n_lookup (off := 109) 110 dX9_isSign_1 (by decide) ((lv_osw c1 (by decide)).trans ((lv_osw c2 (by decide)).trans ((lv_osw c3 (by decide)).trans ((lv_osw c4 (by decide)).trans ((lv_osw c5 (by decide)).trans ((lv_osw c6 (by decide)).trans ((lv_osw c7 (by decide)).trans ((lv_osw c8 (by decide)).trans ((lv_osw c9 (by decide)).trans ((lv_osw c10 (by decide)).trans ((lv_osw c11 (by decide)).trans ((lv_osw c12 (by decide)).trans rfl)))))))))))) (by decide) ?_
                          refine n_iconst (0 : Int32) dX9_isSign_110 ic_0 ?_
                          cases h
                          exact n_iret dX9_isSign_111 rfl (by decide) (Nat.le_refl _) (Nat.le_refl _) ⟨rfl, rfl⟩
set_option maxHeartbeats 4000000 in
set_option maxRecDepth 20000 in
theorem tj_X9_splitNumber_64 {G : yb_G} {X : List (FieldType × Nat)} {x1 : Int32} {x2 : Int32} {x3 : Int32} {y0 : Int32} {s : yb_S} {out : (Int32 × yb_S)} (h : j_X9_splitNumber_64 x1 x2 x3 y0 s = some out) : Rn G RX9 cX9_splitNumber 4 (Option.some .int) false (yb_rm 2) (yb_qi X out.2 out.1) 0 0 64 [none, some (.int x1), some (.int x2), some (.int x3)] [.int y0, .ref (yb_ad G 92)] (yb_mk s X) := by
  unfold j_X9_splitNumber_64 at h
  refine n_iload_n (i := 1) dX9_splitNumber_64 rfl rfl ?_
  refine n_iload_n (i := 3) dX9_splitNumber_65 rfl rfl ?_
  obtain ⟨q3, hq3, h⟩ := yb_bind h
  refine p_callVv (As := [.int y0, .int x1, .int x3]) (t_X9_addToken hq3) cv_X9_72 (sh_92 _ _) rfl rfl (Nat.le_of_ble_eq_true rfl) dX9_splitNumber_66 (yb_rok (Nat.le_of_ble_eq_true rfl) (by decide)) ⟨rfl, rfl⟩ ⟨Nat.le_refl _, Nat.le_refl _⟩ (fun k4 => ?_)
  refine n_iload_n (i := 2) dX9_splitNumber_69 rfl rfl ?_
  cases h
  exact n_iret dX9_splitNumber_70 rfl rfl (Nat.le_refl _) (Nat.le_refl _) ⟨rfl, rfl⟩
set_option maxHeartbeats 4000000 in
set_option maxRecDepth 20000 in
theorem tj_X9_splitNumber_51 {G : yb_G} {X : List (FieldType × Nat)} {x1 : Int32} {x2 : Int32} {x3 : Int32} {s : yb_S} {out : (Int32 × yb_S)} (h : j_X9_splitNumber_51 x1 x2 x3 s = some out) : Rn G RX9 cX9_splitNumber 4 (Option.some .int) false (yb_rm 2) (yb_qi X out.2 out.1) 0 0 51 [some (.ref (yb_ad G 92)), some (.int x1), some (.int x2), some (.int x3)] [] (yb_mk s X) := by
  unfold j_X9_splitNumber_51 at h
  refine n_aload_n (i := 0) dX9_splitNumber_51 rfl rfl ?_
  refine n_iload_n (i := 3) dX9_splitNumber_52 rfl rfl ?_
  refine n_ldc (99999 : Int32) k_X9_80 dX9_splitNumber_53 ?_
  refine n_icmp_gt 62 dX9_splitNumber_55 (by decide) (fun c2 => ?_) (fun c2 => ?_)
  · have h := yb_ifp c2 h
    refine n_bipush (7 : Int32) dX9_splitNumber_62 bp_7 ?_
    exact p_jump (tj_X9_splitNumber_64 h) (And.intro rfl (And.intro rfl (And.intro rfl trivial)))
  · have h := yb_ifn c2 h
    refine n_iconst (1 : Int32) dX9_splitNumber_58 ic_1 ?_
    refine n_goto 64 dX9_splitNumber_59 (by decide) ?_
    exact p_jump (tj_X9_splitNumber_64 h) (And.intro rfl (And.intro rfl (And.intro rfl trivial)))
set_option maxHeartbeats 4000000 in
set_option maxRecDepth 20000 in
theorem tj_X9_splitNumber_45 {G : yb_G} {X : List (FieldType × Nat)} {rc4 : (Int32 → Int32 → Option (Int32 × yb_S))} {x1 : Int32} {x2 : Int32} {x3 : Int32} {s : yb_S} {out : (Int32 × yb_S)} (hrc4 : ∀ (x2' : Int32) (x3' : Int32), rc4 x2' x3' = some out → Rn G RX9 cX9_splitNumber 4 (Option.some .int) false (yb_rm 2) (yb_qi X out.2 out.1) 0 0 4 [some (.ref (yb_ad G 92)), some (.int x1), some (.int x2'), some (.int x3')] [] (yb_mk s X)) (h : j_X9_splitNumber_45 rc4 x1 x2 x3 s = some out) : Rn G RX9 cX9_splitNumber 4 (Option.some .int) false (yb_rm 2) (yb_qi X out.2 out.1) 0 0 45 [some (.ref (yb_ad G 92)), some (.int x1), some (.int x2), some (.int x3)] [] (yb_mk s X) := by
  unfold j_X9_splitNumber_45 at h
  refine n_iinc (vs' := [some (.ref (yb_ad G 92)), some (.int x1), some (.int (x2 + (1 : Int32))), some (.int x3)]) dX9_splitNumber_45 rfl (ii_1 _) (Nat.le_of_ble_eq_true rfl) rfl rfl ?_
  refine n_goto 4 dX9_splitNumber_48 (by decide) ?_
  exact p_jump (hrc4 (x2 + (1 : Int32)) x3 h) (And.intro rfl (And.intro rfl (And.intro rfl (And.intro rfl trivial))))
set_option maxHeartbeats 4000000 in
set_option maxRecDepth 20000 in
theorem t_l_X9_splitNumber_4 {G : yb_G} {X : List (FieldType × Nat)} {x1 : Int32} {s : yb_S} {out : (Int32 × yb_S)} : ∀ (k0 : Nat) (x2 : Int32) (x3 : Int32), l_X9_splitNumber_4 x1 s k0 x2 x3 = some out → Rn G RX9 cX9_splitNumber 4 (Option.some .int) false (yb_rm 2) (yb_qi X out.2 out.1) 0 0 4 [some (.ref (yb_ad G 92)), some (.int x1), some (.int x2), some (.int x3)] [] (yb_mk s X) := by
  intro k0
  induction k0 with
  | zero => intro x2 x3 h; cases h
  | succ k0 ih =>
    intro x2 x3 h
    have h : f_X9_splitNumber_4 (fun x2 x3 => l_X9_splitNumber_4 x1 s k0 x2 x3) x1 s x2 x3 = some out := h
    have hrc4 := ih
    unfold f_X9_splitNumber_4 at h
    refine n_iload_n (i := 2) dX9_splitNumber_4 rfl rfl ?_
    refine n_aload_n (i := 0) dX9_splitNumber_5 rfl rfl ?_
    refine p_geti fl_X9_33 (sh_92 _ _) rfl dX9_splitNumber_6 ?_
    refine n_icmp_ge 51 dX9_splitNumber_9 (by decide) (fun c1 => ?_) (fun c1 => ?_)
    · have h := yb_ifp c1 h
      exact p_jump (tj_X9_splitNumber_51 h) (And.intro rfl (And.intro rfl (And.intro rfl (And.intro rfl trivial))))
    · have h := yb_ifn c1 h
      refine n_aload_n (i := 0) dX9_splitNumber_12 rfl rfl ?_
      refine p_getr fl_X9_21 (sh_92 _ _) rfl (rR_92_6 _ _) dX9_splitNumber_13 ?_
      refine n_iload_n (i := 2) dX9_splitNumber_16 rfl rfl ?_
      obtain ⟨v5, hv5, h⟩ := yb_bind h
      refine p_iald hv5 (sh_96 _ _) dX9_splitNumber_17 ?_
      obtain ⟨q6, hq6, h⟩ := yb_bind h
      refine p_callSi (As := [.int v5]) (t_X9_isDigit hq6) cs_X9_63 rfl rfl (Nat.le_of_ble_eq_true rfl) dX9_splitNumber_18 (yb_rok (Nat.le_of_ble_eq_true rfl) (by decide)) ⟨rfl, rfl⟩ ⟨Nat.le_refl _, Nat.le_refl _⟩ (fun k7 => ?_)
      refine n_if_eq 51 dX9_splitNumber_21 (by decide) (fun c8 => ?_) (fun c8 => ?_)
      · have h := yb_ifp c8 h
        exact p_jump (tj_X9_splitNumber_51 h) (And.intro rfl (And.intro rfl (And.intro rfl (And.intro rfl trivial))))
      · have h := yb_ifn c8 h
        refine n_iload_n (i := 3) dX9_splitNumber_24 rfl rfl ?_
        refine n_ldc (99999 : Int32) k_X9_80 dX9_splitNumber_25 ?_
        refine n_icmp_gt 45 dX9_splitNumber_27 (by decide) (fun c9 => ?_) (fun c9 => ?_)
        · have h := yb_ifp c9 h
          exact p_jump (tj_X9_splitNumber_45 hrc4 h) (And.intro rfl (And.intro rfl (And.intro rfl (And.intro rfl trivial))))
        · have h := yb_ifn c9 h
          refine n_iload_n (i := 3) dX9_splitNumber_30 rfl rfl ?_
          refine n_bipush (10 : Int32) dX9_splitNumber_31 bp_10 ?_
          refine n_imul dX9_splitNumber_33 ?_
          refine n_aload_n (i := 0) dX9_splitNumber_34 rfl rfl ?_
          refine p_getr fl_X9_21 (sh_92 _ _) rfl (rR_92_6 _ _) dX9_splitNumber_35 ?_
          refine n_iload_n (i := 2) dX9_splitNumber_38 rfl rfl ?_
          obtain ⟨v10, hv10, h⟩ := yb_bind h
          refine p_iald hv10 (sh_96 _ _) dX9_splitNumber_39 ?_
          refine n_iadd dX9_splitNumber_40 ?_
          refine n_bipush (48 : Int32) dX9_splitNumber_41 bp_48 ?_
          refine n_isub dX9_splitNumber_43 ?_
          refine n_istore_n (i := 3) (vs' := [some (.ref (yb_ad G 92)), some (.int x1), some (.int x2), some (.int (((x3 * (10 : Int32)) + v10) - (48 : Int32)))]) dX9_splitNumber_44 rfl (Nat.le_of_ble_eq_true rfl) rfl rfl ?_
          exact p_jump (tj_X9_splitNumber_45 hrc4 h) (And.intro rfl (And.intro rfl (And.intro rfl (And.intro rfl trivial))))
set_option maxHeartbeats 4000000 in
set_option maxRecDepth 20000 in
theorem tl_X9_splitNumber_4 {G : yb_G} {X : List (FieldType × Nat)} {x1 : Int32} {s : yb_S} {out : (Int32 × yb_S)} {x2 : Int32} {x3 : Int32} (h : l_X9_splitNumber_4 x1 s yb_N x2 x3 = some out) : Rn G RX9 cX9_splitNumber 4 (Option.some .int) false (yb_rm 2) (yb_qi X out.2 out.1) 0 0 4 [some (.ref (yb_ad G 92)), some (.int x1), some (.int x2), some (.int x3)] [] (yb_mk s X) := t_l_X9_splitNumber_4 _ _ _ h
set_option maxHeartbeats 4000000 in
set_option maxRecDepth 20000 in
theorem t_X9_splitNumber {G : yb_G} {X : List (FieldType × Nat)} {a1 : Int32} {s : yb_S} {out : (Int32 × yb_S)} (h : f_X9_splitNumber a1 s = some out) : Ct G yX9_splitNumber cX9_splitNumber 4 (Option.some .int) (yb_rm 2) [.ref (yb_ad G 92), .int a1] (yb_mk s X) (yb_qi X out.2 out.1) := by
  refine Ct.of (own := RX9) (ini := false) (vs := [some (.ref (yb_ad G 92)), some (.int a1), none, none]) ⟨rfl, by decide +kernel⟩ (fun h => by cases h) (Nat.le_of_ble_eq_true rfl) rfl ?_
  unfold f_X9_splitNumber at h
  refine n_iload_n (i := 1) dX9_splitNumber_0 rfl rfl ?_
  refine n_istore_n (i := 2) (vs' := [some (.ref (yb_ad G 92)), some (.int a1), some (.int a1), none]) dX9_splitNumber_1 rfl (Nat.le_of_ble_eq_true rfl) rfl rfl ?_
  refine n_iconst (0 : Int32) dX9_splitNumber_2 ic_0 ?_
  refine n_istore_n (i := 3) (vs' := [some (.ref (yb_ad G 92)), some (.int a1), some (.int a1), some (.int (0 : Int32))]) dX9_splitNumber_3 rfl (Nat.le_of_ble_eq_true rfl) rfl rfl ?_
  exact p_jump (tl_X9_splitNumber_4 h) (And.intro rfl (And.intro rfl (And.intro rfl (And.intro rfl trivial))))
set_option maxHeartbeats 4000000 in
set_option maxRecDepth 20000 in
theorem t_l_X9_isWordAt_3 {G : yb_G} {X : List (FieldType × Nat)} {x1 : Int32} {x2 : Int32} {x3 : Int32} {s : yb_S} {out : Int32} : ∀ (k0 : Nat) (x4 : Int32), l_X9_isWordAt_3 x1 x2 x3 s k0 x4 = some out → Rn G RX9 cX9_isWordAt 5 (Option.some .boolean) false (yb_rm 7) (yb_qi X s out) 0 0 3 [some (.ref (yb_ad G 92)), some (.int x1), some (.int x2), some (.int x3), some (.int x4)] [] (yb_mk s X) := by
  intro k0
  induction k0 with
  | zero => intro x4 h; cases h
  | succ k0 ih =>
    intro x4 h
    have h : f_X9_isWordAt_3 (fun x4 => l_X9_isWordAt_3 x1 x2 x3 s k0 x4) x1 x2 x3 s x4 = some out := h
    have hrc3 := ih
    unfold f_X9_isWordAt_3 at h
    refine n_iload dX9_isWordAt_3 rfl ?_
    refine n_iload_n (i := 3) dX9_isWordAt_5 rfl rfl ?_
    refine n_iload_n (i := 2) dX9_isWordAt_6 rfl rfl ?_
    refine n_isub dX9_isWordAt_7 ?_
    refine n_icmp_ge 40 dX9_isWordAt_8 (by decide) (fun c1 => ?_) (fun c1 => ?_)
    · have h := yb_ifp c1 h
      refine n_iconst (1 : Int32) dX9_isWordAt_40 ic_1 ?_
      cases h
      exact n_iret dX9_isWordAt_41 rfl (by decide) (Nat.le_refl _) (Nat.le_refl _) ⟨rfl, rfl⟩
    · have h := yb_ifn c1 h
      refine n_ldcS (i := 0) rfl dX9_isWordAt_11 ?_
      refine n_iload_n (i := 1) dX9_isWordAt_13 rfl rfl ?_
      refine n_iload dX9_isWordAt_14 rfl ?_
      refine n_iadd dX9_isWordAt_16 ?_
      obtain ⟨v2, hv2, h⟩ := yb_bind h
      refine p_callTi (As := [.int (x1 + x4)]) (t_schr hv2) ct_X9_119 (yb_sc_some hv2).1 rfl rfl (Nat.le_of_ble_eq_true rfl) dX9_isWordAt_17 (yb_rok (Nat.le_of_ble_eq_true rfl) (by decide)) ⟨rfl, rfl⟩ ⟨Nat.le_refl _, Nat.le_refl _⟩ (fun k3 => ?_)
      refine n_aload_n (i := 0) dX9_isWordAt_20 rfl rfl ?_
      refine p_getr fl_X9_21 (sh_92 _ _) rfl (rR_92_6 _ _) dX9_isWordAt_21 ?_
      refine n_iload_n (i := 2) dX9_isWordAt_24 rfl rfl ?_
      refine n_iload dX9_isWordAt_25 rfl ?_
      refine n_iadd dX9_isWordAt_27 ?_
      obtain ⟨v4, hv4, h⟩ := yb_bind h
      refine p_iald hv4 (sh_96 _ _) dX9_isWordAt_28 ?_
      refine n_icmp_eq 34 dX9_isWordAt_29 (by decide) (fun c5 => ?_) (fun c5 => ?_)
      · have h := yb_ifp c5 h
        refine n_iinc (vs' := [some (.ref (yb_ad G 92)), some (.int x1), some (.int x2), some (.int x3), some (.int (x4 + (1 : Int32)))]) dX9_isWordAt_34 rfl (ii_1 _) (Nat.le_of_ble_eq_true rfl) rfl rfl ?_
        refine n_goto 3 dX9_isWordAt_37 (by decide) ?_
        exact p_jump (hrc3 (x4 + (1 : Int32)) h) (And.intro rfl (And.intro rfl (And.intro rfl (And.intro rfl (And.intro rfl trivial)))))
      · have h := yb_ifn c5 h
        refine n_iconst (0 : Int32) dX9_isWordAt_32 ic_0 ?_
        cases h
        exact n_iret dX9_isWordAt_33 rfl (by decide) (Nat.le_refl _) (Nat.le_refl _) ⟨rfl, rfl⟩
set_option maxHeartbeats 4000000 in
set_option maxRecDepth 20000 in
theorem tl_X9_isWordAt_3 {G : yb_G} {X : List (FieldType × Nat)} {x1 : Int32} {x2 : Int32} {x3 : Int32} {s : yb_S} {out : Int32} {x4 : Int32} (h : l_X9_isWordAt_3 x1 x2 x3 s yb_N x4 = some out) : Rn G RX9 cX9_isWordAt 5 (Option.some .boolean) false (yb_rm 7) (yb_qi X s out) 0 0 3 [some (.ref (yb_ad G 92)), some (.int x1), some (.int x2), some (.int x3), some (.int x4)] [] (yb_mk s X) := t_l_X9_isWordAt_3 _ _ h
set_option maxHeartbeats 4000000 in
set_option maxRecDepth 20000 in
theorem t_X9_isWordAt {G : yb_G} {X : List (FieldType × Nat)} {a1 : Int32} {a2 : Int32} {a3 : Int32} {s : yb_S} {out : Int32} (h : f_X9_isWordAt a1 a2 a3 s = some out) : Ct G yX9_isWordAt cX9_isWordAt 5 (Option.some .boolean) (yb_rm 7) [.ref (yb_ad G 92), .int a1, .int a2, .int a3] (yb_mk s X) (yb_qi X s out) := by
  refine Ct.of (own := RX9) (ini := false) (vs := [some (.ref (yb_ad G 92)), some (.int a1), some (.int a2), some (.int a3), none]) ⟨rfl, by decide +kernel⟩ (fun h => by cases h) (Nat.le_of_ble_eq_true rfl) rfl ?_
  unfold f_X9_isWordAt at h
  refine n_iconst (0 : Int32) dX9_isWordAt_0 ic_0 ?_
  refine n_istore (i := 4) (vs' := [some (.ref (yb_ad G 92)), some (.int a1), some (.int a2), some (.int a3), some (.int (0 : Int32))]) dX9_isWordAt_1 (Nat.le_of_ble_eq_true rfl) rfl rfl ?_
  exact p_jump (tl_X9_isWordAt_3 h) (And.intro rfl (And.intro rfl (And.intro rfl (And.intro rfl (And.intro rfl trivial)))))
set_option maxHeartbeats 4000000 in
set_option maxRecDepth 20000 in
theorem tj_X9_wordOf_63 {G : yb_G} {X : List (FieldType × Nat)} {rc8 : (Int32 → Int32 → Int32 → Option Int32)} {x1 : Int32} {x2 : Int32} {x3 : Int32} {x4 : Int32} {x5 : Int32} {s : yb_S} {out : Int32} (hrc8 : ∀ (x3' : Int32) (x4' : Int32) (x5' : Int32), rc8 x3' x4' x5' = some out → Rn G RX9 cX9_wordOf 6 (Option.some .int) false (yb_rm 8) (yb_qi X s out) 0 0 8 [some (.ref (yb_ad G 92)), some (.int x1), some (.int x2), some (.int x3'), some (.int x4'), some (.int x5')] [] (yb_mk s X)) (h : j_X9_wordOf_63 rc8 x1 x2 x3 x4 x5 s = some out) : Rn G RX9 cX9_wordOf 6 (Option.some .int) false (yb_rm 8) (yb_qi X s out) 0 0 63 [some (.ref (yb_ad G 92)), some (.int x1), some (.int x2), some (.int x3), some (.int x4), some (.int x5)] [] (yb_mk s X) := by
  unfold j_X9_wordOf_63 at h
  refine n_iinc (vs' := [some (.ref (yb_ad G 92)), some (.int x1), some (.int x2), some (.int x3), some (.int x4), some (.int (x5 + (1 : Int32)))]) dX9_wordOf_63 rfl (ii_1 _) (Nat.le_of_ble_eq_true rfl) rfl rfl ?_
  refine n_goto 8 dX9_wordOf_66 (by decide) ?_
  exact p_jump (hrc8 x3 x4 (x5 + (1 : Int32)) h) (And.intro rfl (And.intro rfl (And.intro rfl (And.intro rfl (And.intro rfl (And.intro rfl trivial))))))
set_option maxHeartbeats 4000000 in
set_option maxRecDepth 20000 in
theorem tj_X9_wordOf_54 {G : yb_G} {X : List (FieldType × Nat)} {rc8 : (Int32 → Int32 → Int32 → Option Int32)} {x1 : Int32} {x2 : Int32} {x3 : Int32} {x5 : Int32} {s : yb_S} {out : Int32} (hrc8 : ∀ (x3' : Int32) (x4' : Int32) (x5' : Int32), rc8 x3' x4' x5' = some out → Rn G RX9 cX9_wordOf 6 (Option.some .int) false (yb_rm 8) (yb_qi X s out) 0 0 8 [some (.ref (yb_ad G 92)), some (.int x1), some (.int x2), some (.int x3'), some (.int x4'), some (.int x5')] [] (yb_mk s X)) (h : j_X9_wordOf_54 rc8 x1 x2 x3 x5 s = some out) : Rn G RX9 cX9_wordOf 6 (Option.some .int) false (yb_rm 8) (yb_qi X s out) 0 0 54 [some (.ref (yb_ad G 92)), some (.int x1), some (.int x2), some (.int x3), none, some (.int x5)] [] (yb_mk s X) := by
  unfold j_X9_wordOf_54 at h
  refine n_iinc (vs' := [some (.ref (yb_ad G 92)), some (.int x1), some (.int x2), some (.int (x3 + (1 : Int32))), none, some (.int x5)]) dX9_wordOf_54 rfl (ii_1 _) (Nat.le_of_ble_eq_true rfl) rfl rfl ?_
  refine n_iload dX9_wordOf_57 rfl ?_
  refine n_iconst (1 : Int32) dX9_wordOf_59 ic_1 ?_
  refine n_iadd dX9_wordOf_60 ?_
  refine n_istore (i := 4) (vs' := [some (.ref (yb_ad G 92)), some (.int x1), some (.int x2), some (.int (x3 + (1 : Int32))), some (.int (x5 + (1 : Int32))), some (.int x5)]) dX9_wordOf_61 (Nat.le_of_ble_eq_true rfl) rfl rfl ?_
  exact p_jump (tj_X9_wordOf_63 hrc8 h) (And.intro rfl (And.intro rfl (And.intro rfl (And.intro rfl (And.intro rfl (And.intro rfl trivial))))))
set_option maxHeartbeats 4000000 in
set_option maxRecDepth 20000 in
theorem t_l_X9_wordOf_8 {G : yb_G} {X : List (FieldType × Nat)} {x1 : Int32} {x2 : Int32} {s : yb_S} {out : Int32} : ∀ (k0 : Nat) (x3 : Int32) (x4 : Int32) (x5 : Int32), l_X9_wordOf_8 x1 x2 s k0 x3 x4 x5 = some out → Rn G RX9 cX9_wordOf 6 (Option.some .int) false (yb_rm 8) (yb_qi X s out) 0 0 8 [some (.ref (yb_ad G 92)), some (.int x1), some (.int x2), some (.int x3), some (.int x4), some (.int x5)] [] (yb_mk s X) := by
  intro k0
  induction k0 with
  | zero => intro x3 x4 x5 h; cases h
  | succ k0 ih =>
    intro x3 x4 x5 h
    have h : f_X9_wordOf_8 (fun x3 x4 x5 => l_X9_wordOf_8 x1 x2 s k0 x3 x4 x5) x1 x2 s x3 x4 x5 = some out := h
    have hrc8 := ih
    unfold f_X9_wordOf_8 at h
    refine n_iload dX9_wordOf_8 rfl ?_
    refine n_ldcS (i := 0) rfl dX9_wordOf_10 ?_
    obtain ⟨v1, hv1, h⟩ := yb_bind h
    refine p_callTi (As := []) (t_slen hv1) ct_X9_114 (yb_sl_some hv1).1 rfl rfl (Nat.le_of_ble_eq_true rfl) dX9_wordOf_12 (yb_rok (Nat.le_of_ble_eq_true rfl) (by decide)) ⟨rfl, rfl⟩ ⟨Nat.le_refl _, Nat.le_refl _⟩ (fun k2 => ?_)
    refine n_icmp_ge 69 dX9_wordOf_15 (by decide) (fun c3 => ?_) (fun c3 => ?_)
    · have h := yb_ifp c3 h
      refine n_iconst (-1 : Int32) dX9_wordOf_69 ic_m1 ?_
      cases h
      exact n_iret dX9_wordOf_70 rfl rfl (Nat.le_refl _) (Nat.le_refl _) ⟨rfl, rfl⟩
    · have h := yb_ifn c3 h
      refine n_ldcS (i := 0) rfl dX9_wordOf_18 ?_
      refine n_iload dX9_wordOf_20 rfl ?_
      obtain ⟨v4, hv4, h⟩ := yb_bind h
      refine p_callTi (As := [.int x5]) (t_schr hv4) ct_X9_119 (yb_sc_some hv4).1 rfl rfl (Nat.le_of_ble_eq_true rfl) dX9_wordOf_22 (yb_rok (Nat.le_of_ble_eq_true rfl) (by decide)) ⟨rfl, rfl⟩ ⟨Nat.le_refl _, Nat.le_refl _⟩ (fun k5 => ?_)
      refine n_bipush (32 : Int32) dX9_wordOf_25 bp_32 ?_
      refine n_icmp_ne 63 dX9_wordOf_27 (by decide) (fun c6 => ?_) (fun c6 => ?_)
      · have h := yb_ifn c6 h
        exact p_jump (tj_X9_wordOf_63 hrc8 h) (And.intro rfl (And.intro rfl (And.intro rfl (And.intro rfl (And.intro rfl (And.intro rfl trivial))))))
      · have h := yb_ifp c6 h
        refine n_iload dX9_wordOf_30 rfl ?_
        refine n_iload dX9_wordOf_32 rfl ?_
        refine n_isub dX9_wordOf_34 ?_
        refine n_iload_n (i := 2) dX9_wordOf_35 rfl rfl ?_
        refine n_iload_n (i := 1) dX9_wordOf_36 rfl rfl ?_
        refine n_isub dX9_wordOf_37 ?_
        refine n_icmp_ne 54 dX9_wordOf_38 (by decide) (fun c7 => ?_) (fun c7 => ?_)
        · have h := yb_ifn c7 h
          exact p_jump (tj_X9_wordOf_54 hrc8 h) (And.intro rfl (And.intro rfl (And.intro rfl (And.intro rfl (And.intro rfl trivial)))))
        · have h := yb_ifp c7 h
          refine n_aload_n (i := 0) dX9_wordOf_41 rfl rfl ?_
          refine n_iload dX9_wordOf_42 rfl ?_
          refine n_iload_n (i := 1) dX9_wordOf_44 rfl rfl ?_
          refine n_iload_n (i := 2) dX9_wordOf_45 rfl rfl ?_
          obtain ⟨q8, hq8, h⟩ := yb_bind h
          refine p_callVi (As := [.int x4, .int x1, .int x2]) (t_X9_isWordAt hq8) cv_X9_123 (sh_92 _ _) rfl rfl (Nat.le_of_ble_eq_true rfl) dX9_wordOf_46 (yb_rok (Nat.le_of_ble_eq_true rfl) (by decide)) ⟨rfl, rfl⟩ ⟨Nat.le_refl _, Nat.le_refl _⟩ (fun k9 => ?_)
          refine n_if_eq 54 dX9_wordOf_49 (by decide) (fun c10 => ?_) (fun c10 => ?_)
          · have h := yb_ifp c10 h
            exact p_jump (tj_X9_wordOf_54 hrc8 h) (And.intro rfl (And.intro rfl (And.intro rfl (And.intro rfl (And.intro rfl trivial)))))
          · have h := yb_ifn c10 h
            refine n_iload_n (i := 3) dX9_wordOf_52 rfl rfl ?_
            cases h
            exact n_iret dX9_wordOf_53 rfl rfl (Nat.le_refl _) (Nat.le_refl _) ⟨rfl, rfl⟩
set_option maxHeartbeats 4000000 in
set_option maxRecDepth 20000 in
theorem tl_X9_wordOf_8 {G : yb_G} {X : List (FieldType × Nat)} {x1 : Int32} {x2 : Int32} {s : yb_S} {out : Int32} {x3 : Int32} {x4 : Int32} {x5 : Int32} (h : l_X9_wordOf_8 x1 x2 s yb_N x3 x4 x5 = some out) : Rn G RX9 cX9_wordOf 6 (Option.some .int) false (yb_rm 8) (yb_qi X s out) 0 0 8 [some (.ref (yb_ad G 92)), some (.int x1), some (.int x2), some (.int x3), some (.int x4), some (.int x5)] [] (yb_mk s X) := t_l_X9_wordOf_8 _ _ _ _ h
set_option maxHeartbeats 4000000 in
set_option maxRecDepth 20000 in
theorem t_X9_wordOf {G : yb_G} {X : List (FieldType × Nat)} {a1 : Int32} {a2 : Int32} {s : yb_S} {out : Int32} (h : f_X9_wordOf a1 a2 s = some out) : Ct G yX9_wordOf cX9_wordOf 6 (Option.some .int) (yb_rm 8) [.ref (yb_ad G 92), .int a1, .int a2] (yb_mk s X) (yb_qi X s out) := by
  refine Ct.of (own := RX9) (ini := false) (vs := [some (.ref (yb_ad G 92)), some (.int a1), some (.int a2), none, none, none]) ⟨rfl, by decide +kernel⟩ (fun h => by cases h) (Nat.le_of_ble_eq_true rfl) rfl ?_
  unfold f_X9_wordOf at h
  refine n_iconst (0 : Int32) dX9_wordOf_0 ic_0 ?_
  refine n_istore_n (i := 3) (vs' := [some (.ref (yb_ad G 92)), some (.int a1), some (.int a2), some (.int (0 : Int32)), none, none]) dX9_wordOf_1 rfl (Nat.le_of_ble_eq_true rfl) rfl rfl ?_
  refine n_iconst (0 : Int32) dX9_wordOf_2 ic_0 ?_
  refine n_istore (i := 4) (vs' := [some (.ref (yb_ad G 92)), some (.int a1), some (.int a2), some (.int (0 : Int32)), some (.int (0 : Int32)), none]) dX9_wordOf_3 (Nat.le_of_ble_eq_true rfl) rfl rfl ?_
  refine n_iconst (0 : Int32) dX9_wordOf_5 ic_0 ?_
  refine n_istore (i := 5) (vs' := [some (.ref (yb_ad G 92)), some (.int a1), some (.int a2), some (.int (0 : Int32)), some (.int (0 : Int32)), some (.int (0 : Int32))]) dX9_wordOf_6 (Nat.le_of_ble_eq_true rfl) rfl rfl ?_
  exact p_jump (tl_X9_wordOf_8 h) (And.intro rfl (And.intro rfl (And.intro rfl (And.intro rfl (And.intro rfl (And.intro rfl trivial))))))
set_option maxHeartbeats 4000000 in
set_option maxRecDepth 20000 in
theorem tj_X9_splitWord_108 {G : yb_G} {X : List (FieldType × Nat)} {x1 : Int32} {x2 : Int32} {y0 : Int32} {s : yb_S} {out : (Int32 × yb_S)} (h : j_X9_splitWord_108 x1 x2 y0 s = some out) : Rn G RX9 cX9_splitWord 4 (Option.some .int) false (yb_rm 9) (yb_qi X out.2 out.1) 0 0 108 [none, some (.int x1), some (.int x2), none] [.int y0, .ref (yb_ad G 92)] (yb_mk s X) := by
  unfold j_X9_splitWord_108 at h
  refine n_iload_n (i := 1) dX9_splitWord_108 rfl rfl ?_
  refine n_iconst (0 : Int32) dX9_splitWord_109 ic_0 ?_
  obtain ⟨q9, hq9, h⟩ := yb_bind h
  refine p_callVv (As := [.int y0, .int x1, .int (0 : Int32)]) (t_X9_addToken hq9) cv_X9_72 (sh_92 _ _) rfl rfl (Nat.le_of_ble_eq_true rfl) dX9_splitWord_110 (yb_rok (Nat.le_of_ble_eq_true rfl) (by decide)) ⟨rfl, rfl⟩ ⟨Nat.le_refl _, Nat.le_refl _⟩ (fun k10 => ?_)
  refine n_iload_n (i := 2) dX9_splitWord_113 rfl rfl ?_
  cases h
  exact n_iret dX9_splitWord_114 rfl rfl (Nat.le_refl _) (Nat.le_refl _) ⟨rfl, rfl⟩
set_option maxHeartbeats 4000000 in
set_option maxRecDepth 20000 in
theorem tj_X9_splitWord_74 {G : yb_G} {X : List (FieldType × Nat)} {x1 : Int32} {x2 : Int32} {x3 : Int32} {s : yb_S} {out : (Int32 × yb_S)} (h : j_X9_splitWord_74 x1 x2 x3 s = some out) : Rn G RX9 cX9_splitWord 4 (Option.some .int) false (yb_rm 9) (yb_qi X out.2 out.1) 0 0 74 [some (.ref (yb_ad G 92)), some (.int x1), some (.int x2), some (.int x3)] [] (yb_mk s X) := by
  unfold j_X9_splitWord_74 at h
  refine n_aload_n (i := 0) dX9_splitWord_74 rfl rfl ?_
  refine n_iload_n (i := 3) dX9_splitWord_75 rfl rfl ?_
  refine n_bipush (6 : Int32) dX9_splitWord_76 bp_6 ?_
  refine n_icmp_ne 85 dX9_splitWord_78 (by decide) (fun c6 => ?_) (fun c6 => ?_)
  · have h := yb_ifn c6 h
    refine n_iload_n (i := 3) dX9_splitWord_85 rfl rfl ?_
    refine n_bipush (7 : Int32) dX9_splitWord_86 bp_7 ?_
    refine n_icmp_ne 95 dX9_splitWord_88 (by decide) (fun c7 => ?_) (fun c7 => ?_)
    · have h := yb_ifn c7 h
      refine n_iload_n (i := 3) dX9_splitWord_95 rfl rfl ?_
      refine n_bipush (8 : Int32) dX9_splitWord_96 bp_8 ?_
      refine n_icmp_ne 106 dX9_splitWord_98 (by decide) (fun c8 => ?_) (fun c8 => ?_)
      · have h := yb_ifn c8 h
        refine n_bipush (7 : Int32) dX9_splitWord_106 bp_7 ?_
        exact p_jump (tj_X9_splitWord_108 h) (And.intro rfl (And.intro rfl trivial))
      · have h := yb_ifp c8 h
        refine n_bipush (6 : Int32) dX9_splitWord_101 bp_6 ?_
        refine n_goto 108 dX9_splitWord_103 (by decide) ?_
        exact p_jump (tj_X9_splitWord_108 h) (And.intro rfl (And.intro rfl trivial))
    · have h := yb_ifp c7 h
      refine n_iconst (5 : Int32) dX9_splitWord_91 ic_5 ?_
      refine n_goto 108 dX9_splitWord_92 (by decide) ?_
      exact p_jump (tj_X9_splitWord_108 h) (And.intro rfl (And.intro rfl trivial))
  · have h := yb_ifp c6 h
    refine n_iconst (4 : Int32) dX9_splitWord_81 ic_4 ?_
    refine n_goto 108 dX9_splitWord_82 (by decide) ?_
    exact p_jump (tj_X9_splitWord_108 h) (And.intro rfl (And.intro rfl trivial))
set_option maxHeartbeats 4000000 in
set_option maxRecDepth 20000 in
theorem tj_X9_splitWord_28 {G : yb_G} {X : List (FieldType × Nat)} {x1 : Int32} {x2 : Int32} {s : yb_S} {out : (Int32 × yb_S)} (h : j_X9_splitWord_28 x1 x2 s = some out) : Rn G RX9 cX9_splitWord 4 (Option.some .int) false (yb_rm 9) (yb_qi X out.2 out.1) 0 0 28 [some (.ref (yb_ad G 92)), some (.int x1), some (.int x2), none] [] (yb_mk s X) := by
  unfold j_X9_splitWord_28 at h
  refine n_aload_n (i := 0) dX9_splitWord_28 rfl rfl ?_
  refine n_iload_n (i := 1) dX9_splitWord_29 rfl rfl ?_
  refine n_iload_n (i := 2) dX9_splitWord_30 rfl rfl ?_
  obtain ⟨q2, hq2, h⟩ := yb_bind h
  refine p_callVi (As := [.int x1, .int x2]) (t_X9_wordOf hq2) cv_X9_76 (sh_92 _ _) rfl rfl (Nat.le_of_ble_eq_true rfl) dX9_splitWord_31 (yb_rok (Nat.le_of_ble_eq_true rfl) (by decide)) ⟨rfl, rfl⟩ ⟨Nat.le_refl _, Nat.le_refl _⟩ (fun k3 => ?_)
  refine n_istore_n (i := 3) (vs' := [some (.ref (yb_ad G 92)), some (.int x1), some (.int x2), some (.int q2)]) dX9_splitWord_34 rfl (Nat.le_of_ble_eq_true rfl) rfl rfl ?_
  refine n_iload_n (i := 3) dX9_splitWord_35 rfl rfl ?_
  refine n_bipush (9 : Int32) dX9_splitWord_36 bp_9 ?_
  refine n_icmp_lt 54 dX9_splitWord_38 (by decide) (fun c4 => ?_) (fun c4 => ?_)
  · have h := yb_ifp c4 h
    refine n_iload_n (i := 3) dX9_splitWord_54 rfl rfl ?_
    refine n_if_lt 74 dX9_splitWord_55 (by decide) (fun c5 => ?_) (fun c5 => ?_)
    · have h := yb_ifp c5 h
      exact p_jump (tj_X9_splitWord_74 h) (And.intro rfl (And.intro rfl (And.intro rfl (And.intro rfl trivial))))
    · have h := yb_ifn c5 h
      refine n_iload_n (i := 3) dX9_splitWord_58 rfl rfl ?_
      refine n_bipush (6 : Int32) dX9_splitWord_59 bp_6 ?_
      refine n_icmp_ge 74 dX9_splitWord_61 (by decide) (fun c11 => ?_) (fun c11 => ?_)
      · have h := yb_ifp c11 h
        exact p_jump (tj_X9_splitWord_74 h) (And.intro rfl (And.intro rfl (And.intro rfl (And.intro rfl trivial))))
      · have h := yb_ifn c11 h
        refine n_aload_n (i := 0) dX9_splitWord_64 rfl rfl ?_
        refine n_iconst (3 : Int32) dX9_splitWord_65 ic_3 ?_
        refine n_iload_n (i := 1) dX9_splitWord_66 rfl rfl ?_
        refine n_iload_n (i := 3) dX9_splitWord_67 rfl rfl ?_
        obtain ⟨q12, hq12, h⟩ := yb_bind h
        refine p_callVv (As := [.int (3 : Int32), .int x1, .int q2]) (t_X9_addToken hq12) cv_X9_72 (sh_92 _ _) rfl rfl (Nat.le_of_ble_eq_true rfl) dX9_splitWord_68 (yb_rok (Nat.le_of_ble_eq_true rfl) (by decide)) ⟨rfl, rfl⟩ ⟨Nat.le_refl _, Nat.le_refl _⟩ (fun k13 => ?_)
        refine n_goto 113 dX9_splitWord_71 (by decide) ?_
        refine n_iload_n (i := 2) dX9_splitWord_113 rfl rfl ?_
        cases h
        exact n_iret dX9_splitWord_114 rfl rfl (Nat.le_refl _) (Nat.le_refl _) ⟨rfl, rfl⟩
  · have h := yb_ifn c4 h
    refine n_aload_n (i := 0) dX9_splitWord_41 rfl rfl ?_
    refine n_iconst (2 : Int32) dX9_splitWord_42 ic_2 ?_
    refine n_iload_n (i := 1) dX9_splitWord_43 rfl rfl ?_
    refine n_iload_n (i := 3) dX9_splitWord_44 rfl rfl ?_
    refine n_bipush (9 : Int32) dX9_splitWord_45 bp_9 ?_
    refine n_isub dX9_splitWord_47 ?_
    obtain ⟨q14, hq14, h⟩ := yb_bind h
    refine p_callVv (As := [.int (2 : Int32), .int x1, .int (q2 - (9 : Int32))]) (t_X9_addToken hq14) cv_X9_72 (sh_92 _ _) rfl rfl (Nat.le_of_ble_eq_true rfl) dX9_splitWord_48 (yb_rok (Nat.le_of_ble_eq_true rfl) (by decide)) ⟨rfl, rfl⟩ ⟨Nat.le_refl _, Nat.le_refl _⟩ (fun k15 => ?_)
    refine n_goto 113 dX9_splitWord_51 (by decide) ?_
    refine n_iload_n (i := 2) dX9_splitWord_113 rfl rfl ?_
    cases h
    exact n_iret dX9_splitWord_114 rfl rfl (Nat.le_refl _) (Nat.le_refl _) ⟨rfl, rfl⟩
set_option maxHeartbeats 4000000 in
set_option maxRecDepth 20000 in
theorem t_l_X9_splitWord_2 {G : yb_G} {X : List (FieldType × Nat)} {x1 : Int32} {s : yb_S} {out : (Int32 × yb_S)} : ∀ (k0 : Nat) (x2 : Int32), l_X9_splitWord_2 x1 s k0 x2 = some out → Rn G RX9 cX9_splitWord 4 (Option.some .int) false (yb_rm 9) (yb_qi X out.2 out.1) 0 0 2 [some (.ref (yb_ad G 92)), some (.int x1), some (.int x2), none] [] (yb_mk s X) := by
  intro k0
  induction k0 with
  | zero => intro x2 h; cases h
  | succ k0 ih =>
    intro x2 h
    have h : f_X9_splitWord_2 (fun x2 => l_X9_splitWord_2 x1 s k0 x2) x1 s x2 = some out := h
    have hrc2 := ih
    unfold f_X9_splitWord_2 at h
    refine n_iload_n (i := 2) dX9_splitWord_2 rfl rfl ?_
    refine n_aload_n (i := 0) dX9_splitWord_3 rfl rfl ?_
    refine p_geti fl_X9_33 (sh_92 _ _) rfl dX9_splitWord_4 ?_
    refine n_icmp_ge 28 dX9_splitWord_7 (by decide) (fun c1 => ?_) (fun c1 => ?_)
    · have h := yb_ifp c1 h
      exact p_jump (tj_X9_splitWord_28 h) (And.intro rfl (And.intro rfl (And.intro rfl trivial)))
    · have h := yb_ifn c1 h
      refine n_aload_n (i := 0) dX9_splitWord_10 rfl rfl ?_
      refine p_getr fl_X9_21 (sh_92 _ _) rfl (rR_92_6 _ _) dX9_splitWord_11 ?_
      refine n_iload_n (i := 2) dX9_splitWord_14 rfl rfl ?_
      obtain ⟨v16, hv16, h⟩ := yb_bind h
      refine p_iald hv16 (sh_96 _ _) dX9_splitWord_15 ?_
      obtain ⟨q17, hq17, h⟩ := yb_bind h
      refine p_callSi (As := [.int v16]) (t_X9_isLetter hq17) cs_X9_55 rfl rfl (Nat.le_of_ble_eq_true rfl) dX9_splitWord_16 (yb_rok (Nat.le_of_ble_eq_true rfl) (by decide)) ⟨rfl, rfl⟩ ⟨Nat.le_refl _, Nat.le_refl _⟩ (fun k18 => ?_)
      refine n_if_eq 28 dX9_splitWord_19 (by decide) (fun c19 => ?_) (fun c19 => ?_)
      · have h := yb_ifp c19 h
        exact p_jump (tj_X9_splitWord_28 h) (And.intro rfl (And.intro rfl (And.intro rfl trivial)))
      · have h := yb_ifn c19 h
        refine n_iinc (vs' := [some (.ref (yb_ad G 92)), some (.int x1), some (.int (x2 + (1 : Int32))), none]) dX9_splitWord_22 rfl (ii_1 _) (Nat.le_of_ble_eq_true rfl) rfl rfl ?_
        refine n_goto 2 dX9_splitWord_25 (by decide) ?_
        exact p_jump (hrc2 (x2 + (1 : Int32)) h) (And.intro rfl (And.intro rfl (And.intro rfl trivial)))
set_option maxHeartbeats 4000000 in
set_option maxRecDepth 20000 in
theorem tl_X9_splitWord_2 {G : yb_G} {X : List (FieldType × Nat)} {x1 : Int32} {s : yb_S} {out : (Int32 × yb_S)} {x2 : Int32} (h : l_X9_splitWord_2 x1 s yb_N x2 = some out) : Rn G RX9 cX9_splitWord 4 (Option.some .int) false (yb_rm 9) (yb_qi X out.2 out.1) 0 0 2 [some (.ref (yb_ad G 92)), some (.int x1), some (.int x2), none] [] (yb_mk s X) := t_l_X9_splitWord_2 _ _ h
set_option maxHeartbeats 4000000 in
set_option maxRecDepth 20000 in
theorem t_X9_splitWord {G : yb_G} {X : List (FieldType × Nat)} {a1 : Int32} {s : yb_S} {out : (Int32 × yb_S)} (h : f_X9_splitWord a1 s = some out) : Ct G yX9_splitWord cX9_splitWord 4 (Option.some .int) (yb_rm 9) [.ref (yb_ad G 92), .int a1] (yb_mk s X) (yb_qi X out.2 out.1) := by
  refine Ct.of (own := RX9) (ini := false) (vs := [some (.ref (yb_ad G 92)), some (.int a1), none, none]) ⟨rfl, by decide +kernel⟩ (fun h => by cases h) (Nat.le_of_ble_eq_true rfl) rfl ?_
  unfold f_X9_splitWord at h
  refine n_iload_n (i := 1) dX9_splitWord_0 rfl rfl ?_
  refine n_istore_n (i := 2) (vs' := [some (.ref (yb_ad G 92)), some (.int a1), some (.int a1), none]) dX9_splitWord_1 rfl (Nat.le_of_ble_eq_true rfl) rfl rfl ?_
  exact p_jump (tl_X9_splitWord_2 h) (And.intro rfl (And.intro rfl (And.intro rfl trivial)))
