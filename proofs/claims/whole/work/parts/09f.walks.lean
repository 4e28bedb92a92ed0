/-! WALKS: the machine follows the functions, piece 6 of 7 -/
set_option maxHeartbeats 4000000 in
set_option maxRecDepth 20000 in
theorem t_l_X12_best_120 {G : yb_G} {X : List (FieldType × Nat)} {x3 : Int32} {out : (Int32 × yb_S)} : ∀ (k0 : Nat) (x4 : Int32) (s : yb_S), l_X12_best_120 x3 k0 x4 s = some out → Rn G RX12 cX12_best 5 (Option.some .int) false (yb_rm 130) (yb_qi X out.2 out.1) 0 0 120 [some (.ref (yb_ad G 176)), none, none, some (.int x3), some (.int x4)] [] (yb_mk s X) := by
  intro k0
  induction k0 with
  | zero => intro x4 s h; cases h
  | succ k0 ih =>
    intro x4 s h
    have h : f_X12_best_120 (fun x4 s => l_X12_best_120 x3 k0 x4 s) x3 x4 s = some out := h
    have hrc120 := ih
    unfold f_X12_best_120 at h
    refine n_iload dX12_best_120 rfl ?_
    refine n_aload_n (i := 0) dX12_best_122 rfl rfl ?_
    refine p_geti fl_X12_547 (sh_176 _ _) rfl dX12_best_123 ?_
    refine n_icmp_ge 173 dX12_best_126 (by decide) (fun c13 => ?_) (fun c13 => ?_)
    · have h := yb_ifp c13 h
      refine n_iload_n (i := 3) dX12_best_173 rfl rfl ?_
      refine n_iconst (-1 : Int32) dX12_best_174 ic_m1 ?_
      refine n_icmp_ne 185 dX12_best_175 (by decide) (fun c14 => ?_) (fun c14 => ?_)
      · have h := yb_ifn c14 h
        refine n_aload_n (i := 0) dX12_best_185 rfl rfl ?_
        refine p_getr fl_X12_226 (sh_176 _ _) rfl (rR_176_73 _ _) dX12_best_186 ?_
        refine n_iload_n (i := 3) dX12_best_189 rfl rfl ?_
        obtain ⟨v15, hv15, h⟩ := yb_bind h
        refine p_iald hv15 (sh_597 _ _) dX12_best_190 ?_
        cases h
        exact n_iret dX12_best_191 rfl rfl (Nat.le_refl _) (Nat.le_refl _) ⟨rfl, rfl⟩
      · have h := yb_ifp c14 h
        refine n_aload_n (i := 0) dX12_best_178 rfl rfl ?_
        refine p_geti fl_X12_550 (sh_176 _ _) rfl dX12_best_179 ?_
        refine n_goto 191 dX12_best_182 (by decide) ?_
        cases h
        exact n_iret dX12_best_191 rfl rfl (Nat.le_refl _) (Nat.le_refl _) ⟨rfl, rfl⟩
    · have h := yb_ifn c13 h
      refine n_aload_n (i := 0) dX12_best_129 rfl rfl ?_
      refine p_getr fl_X12_66 (sh_176 _ _) rfl (rR_176_22 _ _) dX12_best_130 ?_
      refine n_aload_n (i := 0) dX12_best_133 rfl rfl ?_
      refine p_getr fl_X12_211 (sh_176 _ _) rfl (rR_176_68 _ _) dX12_best_134 ?_
      refine n_iload dX12_best_137 rfl ?_
      obtain ⟨v16, hv16, h⟩ := yb_bind h
      refine p_iald hv16 (sh_592 _ _) dX12_best_139 ?_
      refine n_aload_n (i := 0) dX12_best_140 rfl rfl ?_
      refine p_getr fl_X12_217 (sh_176 _ _) rfl (rR_176_70 _ _) dX12_best_141 ?_
      refine n_iload dX12_best_144 rfl ?_
      obtain ⟨v17, hv17, h⟩ := yb_bind h
      refine p_iald hv17 (sh_594 _ _) dX12_best_146 ?_
      obtain ⟨s18, hs18, h⟩ := yb_bind h
      refine p_iast hs18 (sh_195 _ _) dX12_best_147 ?_
      refine n_aload_n (i := 0) dX12_best_148 rfl rfl ?_
      refine p_getr fl_X12_69 (sh_176 _ _) rfl (rR_176_23 _ _) dX12_best_149 ?_
      refine n_aload_n (i := 0) dX12_best_152 rfl rfl ?_
      refine p_getr fl_X12_211 (sh_176 _ _) rfl (rR_176_68 _ _) dX12_best_153 ?_
      refine n_iload dX12_best_156 rfl ?_
      obtain ⟨v19, hv19, h⟩ := yb_bind h
      refine p_iald hv19 (sh_592 _ _) dX12_best_158 ?_
      refine n_aload_n (i := 0) dX12_best_159 rfl rfl ?_
      refine p_getr fl_X12_220 (sh_176 _ _) rfl (rR_176_71 _ _) dX12_best_160 ?_
      refine n_iload dX12_best_163 rfl ?_
      obtain ⟨v20, hv20, h⟩ := yb_bind h
      refine p_iald hv20 (sh_595 _ _) dX12_best_165 ?_
      obtain ⟨s21, hs21, h⟩ := yb_bind h
      refine p_iast hs21 (sh_196 _ _) dX12_best_166 ?_
      refine n_iinc (vs' := [some (.ref (yb_ad G 176)), none, none, some (.int x3), some (.int (x4 + (1 : Int32)))]) dX12_best_167 rfl (ii_1 _) (Nat.le_of_ble_eq_true rfl) rfl rfl ?_
      refine n_goto 120 dX12_best_170 (by decide) ?_
      exact p_jump (hrc120 (x4 + (1 : Int32)) s21 h) (And.intro rfl (And.intro rfl (And.intro rfl trivial)))
set_option maxHeartbeats 4000000 in
set_option maxRecDepth 20000 in
theorem tl_X12_best_120 {G : yb_G} {X : List (FieldType × Nat)} {x3 : Int32} {out : (Int32 × yb_S)} {x4 : Int32} {s : yb_S} (h : l_X12_best_120 x3 yb_N x4 s = some out) : Rn G RX12 cX12_best 5 (Option.some .int) false (yb_rm 130) (yb_qi X out.2 out.1) 0 0 120 [some (.ref (yb_ad G 176)), none, none, some (.int x3), some (.int x4)] [] (yb_mk s X) := t_l_X12_best_120 _ _ _ h
set_option maxHeartbeats 4000000 in
set_option maxRecDepth 20000 in
theorem t_l_X12_best_32 {G : yb_G} {X : List (FieldType × Nat)} {x3 : Int32} {out : (Int32 × yb_S)} : ∀ (k0 : Nat) (x4 : Int32) (s : yb_S), l_X12_best_32 x3 k0 x4 s = some out → Rn G RX12 cX12_best 5 (Option.some .int) false (yb_rm 130) (yb_qi X out.2 out.1) 0 0 32 [some (.ref (yb_ad G 176)), none, none, some (.int x3), some (.int x4)] [] (yb_mk s X) := by
  intro k0
  induction k0 with
  | zero => intro x4 s h; cases h
  | succ k0 ih =>
    intro x4 s h
    have h : f_X12_best_32 (fun x4 s => l_X12_best_32 x3 k0 x4 s) x3 x4 s = some out := h
    have hrc32 := ih
    unfold f_X12_best_32 at h
    refine n_iload dX12_best_32 rfl ?_
    refine n_aload_n (i := 0) dX12_best_34 rfl rfl ?_
    refine p_geti fl_X12_547 (sh_176 _ _) rfl dX12_best_35 ?_
    refine n_icmp_ge 97 dX12_best_38 (by decide) (fun c7 => ?_) (fun c7 => ?_)
    · have h := yb_ifp c7 h
      refine n_aload_n (i := 0) dX12_best_97 rfl rfl ?_
      refine n_iconst (-1 : Int32) dX12_best_98 ic_m1 ?_
      obtain ⟨s8, hs8, h⟩ := yb_bind h
      refine p_puti hs8 fp_X12_550 (sh_176 _ _) rfl rfl rfl dX12_best_99 ?_
      refine n_aload_n (i := 0) dX12_best_102 rfl rfl ?_
      refine n_iconst (-1 : Int32) dX12_best_103 ic_m1 ?_
      obtain ⟨s9, hs9, h⟩ := yb_bind h
      refine p_puti hs9 fp_X12_553 (sh_176 _ _) rfl rfl rfl dX12_best_104 ?_
      refine n_aload_n (i := 0) dX12_best_107 rfl rfl ?_
      refine n_iconst (-1 : Int32) dX12_best_108 ic_m1 ?_
      obtain ⟨s10, hs10, h⟩ := yb_bind h
      refine p_puti hs10 fp_X12_556 (sh_176 _ _) rfl rfl rfl dX12_best_109 ?_
      refine n_aload_n (i := 0) dX12_best_112 rfl rfl ?_
      refine n_iconst (0 : Int32) dX12_best_113 ic_0 ?_
      obtain ⟨q11, hq11, h⟩ := yb_bind h
      refine p_callVv (As := [.int (0 : Int32)]) (tt_X12_tries hq11) cv_X12_565 (sh_176 _ _) rfl rfl (Nat.le_of_ble_eq_true rfl) dX12_best_114 (yb_rok (Nat.le_of_ble_eq_true rfl) (by decide)) ⟨rfl, rfl⟩ ⟨Nat.le_refl _, Nat.le_refl _⟩ (fun k12 => ?_)
      refine n_iconst (0 : Int32) dX12_best_117 ic_0 ?_
      refine n_istore (i := 4) (vs' := [some (.ref (yb_ad G 176)), none, none, some (.int x3), some (.int (0 : Int32))]) dX12_best_118 (Nat.le_of_ble_eq_true rfl) rfl rfl ?_
      exact p_jump (tl_X12_best_120 h) (And.intro rfl (And.intro rfl (And.intro rfl trivial)))
    · have h := yb_ifn c7 h
      refine n_aload_n (i := 0) dX12_best_41 rfl rfl ?_
      refine p_getr fl_X12_217 (sh_176 _ _) rfl (rR_176_70 _ _) dX12_best_42 ?_
      refine n_iload dX12_best_45 rfl ?_
      refine n_aload_n (i := 0) dX12_best_47 rfl rfl ?_
      refine p_getr fl_X12_66 (sh_176 _ _) rfl (rR_176_22 _ _) dX12_best_48 ?_
      refine n_aload_n (i := 0) dX12_best_51 rfl rfl ?_
      refine p_getr fl_X12_211 (sh_176 _ _) rfl (rR_176_68 _ _) dX12_best_52 ?_
      refine n_iload dX12_best_55 rfl ?_
      obtain ⟨v22, hv22, h⟩ := yb_bind h
      refine p_iald hv22 (sh_592 _ _) dX12_best_57 ?_
      obtain ⟨v23, hv23, h⟩ := yb_bind h
      refine p_iald hv23 (sh_195 _ _) dX12_best_58 ?_
      obtain ⟨s24, hs24, h⟩ := yb_bind h
      refine p_iast hs24 (sh_594 _ _) dX12_best_59 ?_
      refine n_aload_n (i := 0) dX12_best_60 rfl rfl ?_
      refine p_getr fl_X12_220 (sh_176 _ _) rfl (rR_176_71 _ _) dX12_best_61 ?_
      refine n_iload dX12_best_64 rfl ?_
      refine n_aload_n (i := 0) dX12_best_66 rfl rfl ?_
      refine p_getr fl_X12_69 (sh_176 _ _) rfl (rR_176_23 _ _) dX12_best_67 ?_
      refine n_aload_n (i := 0) dX12_best_70 rfl rfl ?_
      refine p_getr fl_X12_211 (sh_176 _ _) rfl (rR_176_68 _ _) dX12_best_71 ?_
      refine n_iload dX12_best_74 rfl ?_
      obtain ⟨v25, hv25, h⟩ := yb_bind h
      refine p_iald hv25 (sh_592 _ _) dX12_best_76 ?_
      obtain ⟨v26, hv26, h⟩ := yb_bind h
      refine p_iald hv26 (sh_196 _ _) dX12_best_77 ?_
      obtain ⟨s27, hs27, h⟩ := yb_bind h
      refine p_iast hs27 (sh_595 _ _) dX12_best_78 ?_
      refine n_aload_n (i := 0) dX12_best_79 rfl rfl ?_
      refine n_aload_n (i := 0) dX12_best_80 rfl rfl ?_
      refine p_getr fl_X12_211 (sh_176 _ _) rfl (rR_176_68 _ _) dX12_best_81 ?_
      refine n_iload dX12_best_84 rfl ?_
      obtain ⟨v28, hv28, h⟩ := yb_bind h
      refine p_iald hv28 (sh_592 _ _) dX12_best_86 ?_
      refine n_iconst (-1 : Int32) dX12_best_87 ic_m1 ?_
      obtain ⟨q29, hq29, h⟩ := yb_bind h
      refine p_callVv (As := [.int v28, .int (-1 : Int32)]) (t_X12_houses hq29) cv_X12_521 (sh_176 _ _) rfl rfl (Nat.le_of_ble_eq_true rfl) dX12_best_88 (yb_rok (Nat.le_of_ble_eq_true rfl) (by decide)) ⟨rfl, rfl⟩ ⟨Nat.le_refl _, Nat.le_refl _⟩ (fun k30 => ?_)
      refine n_iinc (vs' := [some (.ref (yb_ad G 176)), none, none, some (.int x3), some (.int (x4 + (1 : Int32)))]) dX12_best_91 rfl (ii_1 _) (Nat.le_of_ble_eq_true rfl) rfl rfl ?_
      refine n_goto 32 dX12_best_94 (by decide) ?_
      exact p_jump (hrc32 (x4 + (1 : Int32)) q29 h) (And.intro rfl (And.intro rfl (And.intro rfl trivial)))
set_option maxHeartbeats 4000000 in
set_option maxRecDepth 20000 in
theorem tl_X12_best_32 {G : yb_G} {X : List (FieldType × Nat)} {x3 : Int32} {out : (Int32 × yb_S)} {x4 : Int32} {s : yb_S} (h : l_X12_best_32 x3 yb_N x4 s = some out) : Rn G RX12 cX12_best 5 (Option.some .int) false (yb_rm 130) (yb_qi X out.2 out.1) 0 0 32 [some (.ref (yb_ad G 176)), none, none, some (.int x3), some (.int x4)] [] (yb_mk s X) := t_l_X12_best_32 _ _ _ h
set_option maxHeartbeats 4000000 in
set_option maxRecDepth 20000 in
theorem t_X12_best {G : yb_G} {X : List (FieldType × Nat)} {a1 : Int32} {a2 : Int32} {a3 : Int32} {s : yb_S} {out : (Int32 × yb_S)} (h : f_X12_best a1 a2 a3 s = some out) : Ct G yX12_best cX12_best 5 (Option.some .int) (yb_rm 130) [.ref (yb_ad G 176), .int a1, .int a2, .int a3] (yb_mk s X) (yb_qi X out.2 out.1) := by
  refine Ct.of (own := RX12) (ini := false) (vs := [some (.ref (yb_ad G 176)), some (.int a1), some (.int a2), some (.int a3), none]) ⟨rfl, by decide +kernel⟩ (fun h => by cases h) (Nat.le_of_ble_eq_true rfl) rfl ?_
  unfold f_X12_best at h
  refine n_aload_n (i := 0) dX12_best_0 rfl rfl ?_
  refine n_iload_n (i := 1) dX12_best_1 rfl rfl ?_
  refine n_iload_n (i := 2) dX12_best_2 rfl rfl ?_
  obtain ⟨q1, hq1, h⟩ := yb_bind h
  refine p_callVi (As := [.int a1, .int a2]) (t_X12_canAsk hq1) cv_X12_568 (sh_176 _ _) rfl rfl (Nat.le_of_ble_eq_true rfl) dX12_best_3 (yb_rok (Nat.le_of_ble_eq_true rfl) (by decide)) ⟨rfl, rfl⟩ ⟨Nat.le_refl _, Nat.le_refl _⟩ (fun k2 => ?_)
  refine n_if_eq 27 dX12_best_6 (by decide) (fun c3 => ?_) (fun c3 => ?_)
  · have h := yb_ifp c3 h
    refine n_iconst (-1 : Int32) dX12_best_27 ic_m1 ?_
    cases h
    exact n_iret dX12_best_28 rfl rfl (Nat.le_refl _) (Nat.le_refl _) ⟨rfl, rfl⟩
  · have h := yb_ifn c3 h
    refine n_iload_n (i := 3) dX12_best_9 rfl rfl ?_
    refine n_i2l dX12_best_10 ?_
    refine n_ldc2 (-1 : Int64) k_X12_571 dX12_best_11 ?_
    refine n_aload_n (i := 0) dX12_best_14 rfl rfl ?_
    refine p_geti fl_X12_547 (sh_176 _ _) rfl dX12_best_15 ?_
    refine n_iconst (1 : Int32) dX12_best_18 ic_1 ?_
    refine n_isub dX12_best_19 ?_
    refine n_i2l dX12_best_20 ?_
    obtain ⟨q4, hq4, h⟩ := yb_bind h
    refine p_callSi (As := [.long (a3.toInt64), .long (-1 : Int64), .long (((q1.2.1 176 74) - (1 : Int32)).toInt64)]) (t_X12_in hq4) cs_X12_247 rfl rfl (Nat.le_of_ble_eq_true rfl) dX12_best_21 (yb_rok (Nat.le_of_ble_eq_true rfl) (by decide)) ⟨rfl, rfl⟩ ⟨Nat.le_refl _, Nat.le_refl _⟩ (fun k5 => ?_)
    refine n_if_ne 29 dX12_best_24 (by decide) (fun c6 => ?_) (fun c6 => ?_)
    · have h := yb_ifn c6 h
      refine n_iconst (0 : Int32) dX12_best_29 ic_0 ?_
      refine n_istore (i := 4) (vs' := [some (.ref (yb_ad G 176)), some (.int a1), some (.int a2), some (.int a3), some (.int (0 : Int32))]) dX12_best_30 (Nat.le_of_ble_eq_true rfl) rfl rfl ?_
      exact p_jump (tl_X12_best_32 h) (And.intro rfl (And.intro rfl (And.intro rfl trivial)))
    · have h := yb_ifp c6 h
      refine n_iconst (-1 : Int32) dX12_best_27 ic_m1 ?_
      cases h
      exact n_iret dX12_best_28 rfl rfl (Nat.le_refl _) (Nat.le_refl _) ⟨rfl, rfl⟩
set_option maxHeartbeats 4000000 in
set_option maxRecDepth 20000 in
theorem tj_X12_beyond_42 {G : yb_G} {X : List (FieldType × Nat)} {rc4 : (Int32 → Int32 → yb_S → Option (Int32 × yb_S))} {x2 : Int32} {y0 : Int32} {y1 : Int32} {s : yb_S} {out : (Int32 × yb_S)} (hrc4 : ∀ (x1' : Int32) (x2' : Int32) (s' : yb_S), rc4 x1' x2' s' = some out → Rn G RX12 cX12_beyond 3 (Option.some .int) false (yb_rm 5) (yb_qi X out.2 out.1) 0 0 4 [some (.ref (yb_ad G 176)), some (.int x1'), some (.int x2')] [] (yb_mk s' X)) (h : j_X12_beyond_42 rc4 x2 y0 y1 s = some out) : Rn G RX12 cX12_beyond 3 (Option.some .int) false (yb_rm 5) (yb_qi X out.2 out.1) 0 0 42 [some (.ref (yb_ad G 176)), none, some (.int x2)] [.int y0, .int y1] (yb_mk s X) := by
  unfold j_X12_beyond_42 at h
  refine n_iadd dX12_beyond_42 ?_
  refine n_istore_n (i := 1) (vs' := [some (.ref (yb_ad G 176)), some (.int (y1 + y0)), some (.int x2)]) dX12_beyond_43 rfl (Nat.le_of_ble_eq_true rfl) rfl rfl ?_
  refine n_iinc (vs' := [some (.ref (yb_ad G 176)), some (.int (y1 + y0)), some (.int (x2 + (1 : Int32)))]) dX12_beyond_44 rfl (ii_1 _) (Nat.le_of_ble_eq_true rfl) rfl rfl ?_
  refine n_goto 4 dX12_beyond_47 (by decide) ?_
  exact p_jump (hrc4 (y1 + y0) (x2 + (1 : Int32)) s h) (And.intro rfl (And.intro rfl (And.intro rfl trivial)))
set_option maxHeartbeats 4000000 in
set_option maxRecDepth 20000 in
theorem tj_X12_beyond_41 {G : yb_G} {X : List (FieldType × Nat)} {rc4 : (Int32 → Int32 → yb_S → Option (Int32 × yb_S))} {x2 : Int32} {y0 : Int32} {s : yb_S} {out : (Int32 × yb_S)} (hrc4 : ∀ (x1' : Int32) (x2' : Int32) (s' : yb_S), rc4 x1' x2' s' = some out → Rn G RX12 cX12_beyond 3 (Option.some .int) false (yb_rm 5) (yb_qi X out.2 out.1) 0 0 4 [some (.ref (yb_ad G 176)), some (.int x1'), some (.int x2')] [] (yb_mk s' X)) (h : j_X12_beyond_41 rc4 x2 y0 s = some out) : Rn G RX12 cX12_beyond 3 (Option.some .int) false (yb_rm 5) (yb_qi X out.2 out.1) 0 0 41 [some (.ref (yb_ad G 176)), none, some (.int x2)] [.int y0] (yb_mk s X) := by
  unfold j_X12_beyond_41 at h
  refine n_iconst (0 : Int32) dX12_beyond_41 ic_0 ?_
  exact p_jump (tj_X12_beyond_42 hrc4 h) (And.intro rfl (And.intro rfl trivial))
set_option maxHeartbeats 4000000 in
set_option maxRecDepth 20000 in
theorem t_l_X12_beyond_4 {G : yb_G} {X : List (FieldType × Nat)} {out : (Int32 × yb_S)} : ∀ (k0 : Nat) (x1 : Int32) (x2 : Int32) (s : yb_S), l_X12_beyond_4 k0 x1 x2 s = some out → Rn G RX12 cX12_beyond 3 (Option.some .int) false (yb_rm 5) (yb_qi X out.2 out.1) 0 0 4 [some (.ref (yb_ad G 176)), some (.int x1), some (.int x2)] [] (yb_mk s X) := by
  intro k0
  induction k0 with
  | zero => intro x1 x2 s h; cases h
  | succ k0 ih =>
    intro x1 x2 s h
    have h : f_X12_beyond_4 (fun x1 x2 s => l_X12_beyond_4 k0 x1 x2 s) x1 x2 s = some out := h
    have hrc4 := ih
    unfold f_X12_beyond_4 at h
    refine n_iload_n (i := 2) dX12_beyond_4 rfl rfl ?_
    refine n_aload_n (i := 0) dX12_beyond_5 rfl rfl ?_
    refine p_geti fl_X12_254 (sh_176 _ _) rfl dX12_beyond_6 ?_
    refine n_icmp_ge 50 dX12_beyond_9 (by decide) (fun c1 => ?_) (fun c1 => ?_)
    · have h := yb_ifp c1 h
      refine n_iload_n (i := 1) dX12_beyond_50 rfl rfl ?_
      cases h
      exact n_iret dX12_beyond_51 rfl rfl (Nat.le_refl _) (Nat.le_refl _) ⟨rfl, rfl⟩
    · have h := yb_ifn c1 h
      refine n_iload_n (i := 1) dX12_beyond_12 rfl rfl ?_
      refine n_aload_n (i := 0) dX12_beyond_13 rfl rfl ?_
      refine p_getr fl_X12_66 (sh_176 _ _) rfl (rR_176_22 _ _) dX12_beyond_14 ?_
      refine n_iload_n (i := 2) dX12_beyond_17 rfl rfl ?_
      obtain ⟨v2, hv2, h⟩ := yb_bind h
      refine p_iald hv2 (sh_195 _ _) dX12_beyond_18 ?_
      refine n_if_ne 41 dX12_beyond_19 (by decide) (fun c3 => ?_) (fun c3 => ?_)
      · have h := yb_ifn c3 h
        exact p_jump (tj_X12_beyond_41 hrc4 h) (And.intro rfl (And.intro rfl trivial))
      · have h := yb_ifp c3 h
        refine n_aload_n (i := 0) dX12_beyond_22 rfl rfl ?_
        refine p_getr fl_X12_72 (sh_176 _ _) rfl (rR_176_24 _ _) dX12_beyond_23 ?_
        refine n_iload_n (i := 2) dX12_beyond_26 rfl rfl ?_
        obtain ⟨v4, hv4, h⟩ := yb_bind h
        refine p_iald hv4 (sh_197 _ _) dX12_beyond_27 ?_
        refine n_aload_n (i := 0) dX12_beyond_28 rfl rfl ?_
        refine n_iload_n (i := 2) dX12_beyond_29 rfl rfl ?_
        refine n_iconst (2 : Int32) dX12_beyond_30 ic_2 ?_
        obtain ⟨q5, hq5, h⟩ := yb_bind h
        refine p_callVi (As := [.int x2, .int (2 : Int32)]) (t_X12_askedOf hq5) cv_X12_491 (sh_176 _ _) rfl rfl (Nat.le_of_ble_eq_true rfl) dX12_beyond_31 (yb_rok (Nat.le_of_ble_eq_true rfl) (by decide)) ⟨rfl, rfl⟩ ⟨Nat.le_refl _, Nat.le_refl _⟩ (fun k6 => ?_)
        refine n_icmp_le 41 dX12_beyond_34 (by decide) (fun c7 => ?_) (fun c7 => ?_)
        · have h := yb_ifp c7 h
          exact p_jump (tj_X12_beyond_41 hrc4 h) (And.intro rfl (And.intro rfl trivial))
        · have h := yb_ifn c7 h
          refine n_iconst (1 : Int32) dX12_beyond_37 ic_1 ?_
          refine n_goto 42 dX12_beyond_38 (by decide) ?_
          exact p_jump (tj_X12_beyond_42 hrc4 h) (And.intro rfl (And.intro rfl trivial))
set_option maxHeartbeats 4000000 in
set_option maxRecDepth 20000 in
theorem tl_X12_beyond_4 {G : yb_G} {X : List (FieldType × Nat)} {out : (Int32 × yb_S)} {x1 : Int32} {x2 : Int32} {s : yb_S} (h : l_X12_beyond_4 yb_N x1 x2 s = some out) : Rn G RX12 cX12_beyond 3 (Option.some .int) false (yb_rm 5) (yb_qi X out.2 out.1) 0 0 4 [some (.ref (yb_ad G 176)), some (.int x1), some (.int x2)] [] (yb_mk s X) := t_l_X12_beyond_4 _ _ _ _ h
set_option maxHeartbeats 4000000 in
set_option maxRecDepth 20000 in
theorem t_X12_beyond {G : yb_G} {X : List (FieldType × Nat)} {s : yb_S} {out : (Int32 × yb_S)} (h : f_X12_beyond s = some out) : Ct G yX12_beyond cX12_beyond 3 (Option.some .int) (yb_rm 5) [.ref (yb_ad G 176)] (yb_mk s X) (yb_qi X out.2 out.1) := by
  refine Ct.of (own := RX12) (ini := false) (vs := [some (.ref (yb_ad G 176)), none, none]) ⟨rfl, by decide +kernel⟩ (fun h => by cases h) (Nat.le_of_ble_eq_true rfl) rfl ?_
  unfold f_X12_beyond at h
  refine n_iconst (0 : Int32) dX12_beyond_0 ic_0 ?_
  refine n_istore_n (i := 1) (vs' := [some (.ref (yb_ad G 176)), some (.int (0 : Int32)), none]) dX12_beyond_1 rfl (Nat.le_of_ble_eq_true rfl) rfl rfl ?_
  refine n_iconst (0 : Int32) dX12_beyond_2 ic_0 ?_
  refine n_istore_n (i := 2) (vs' := [some (.ref (yb_ad G 176)), some (.int (0 : Int32)), some (.int (0 : Int32))]) dX12_beyond_3 rfl (Nat.le_of_ble_eq_true rfl) rfl rfl ?_
  exact p_jump (tl_X12_beyond_4 h) (And.intro rfl (And.intro rfl (And.intro rfl trivial)))
set_option maxHeartbeats 4000000 in
set_option maxRecDepth 20000 in
theorem t_X12_boat {G : yb_G} {X : List (FieldType × Nat)} {a1 : Int32} {a2 : Int32} {a3 : Int32} {s : yb_S} {out : (Int32 × yb_S)} (h : f_X12_boat a1 a2 a3 s = some out) : Ct G yX12_boat cX12_boat 4 (Option.some .int) (yb_rm 2) [.ref (yb_ad G 176), .int a1, .int a2, .int a3] (yb_mk s X) (yb_qi X out.2 out.1) := by
  refine Ct.of (own := RX12) (ini := false) (vs := [some (.ref (yb_ad G 176)), some (.int a1), some (.int a2), some (.int a3)]) ⟨rfl, by decide +kernel⟩ (fun h => by cases h) (Nat.le_of_ble_eq_true rfl) rfl ?_
  unfold f_X12_boat at h
  refine n_iload_n (i := 1) dX12_boat_0 rfl rfl ?_
  refine n_i2l dX12_boat_1 ?_
  refine n_aload_n (i := 0) dX12_boat_2 rfl rfl ?_
  refine p_geti fl_X12_275 (sh_176 _ _) rfl dX12_boat_3 ?_
  refine n_i2l dX12_boat_6 ?_
  refine n_ldc2 (200 : Int64) k_X12_270 dX12_boat_7 ?_
  obtain ⟨q1, hq1, h⟩ := yb_bind h
  refine p_callSi (As := [.long (a1.toInt64), .long ((s.1 176 7).toInt64), .long (200 : Int64)]) (t_X12_in hq1) cs_X12_247 rfl rfl (Nat.le_of_ble_eq_true rfl) dX12_boat_10 (yb_rok (Nat.le_of_ble_eq_true rfl) (by decide)) ⟨rfl, rfl⟩ ⟨Nat.le_refl _, Nat.le_refl _⟩ (fun k2 => ?_)
  refine n_if_eq 41 dX12_boat_13 (by decide) (fun c3 => ?_) (fun c3 => ?_)
  · have h := yb_ifp c3 h
    refine n_iconst (-1 : Int32) dX12_boat_41 ic_m1 ?_
    cases h
    exact n_iret dX12_boat_42 rfl rfl (Nat.le_refl _) (Nat.le_refl _) ⟨rfl, rfl⟩
  · have h := yb_ifn c3 h
    refine n_iload_n (i := 2) dX12_boat_16 rfl rfl ?_
    refine n_if_lt 41 dX12_boat_17 (by decide) (fun c4 => ?_) (fun c4 => ?_)
    · have h := yb_ifp c4 h
      refine n_iconst (-1 : Int32) dX12_boat_41 ic_m1 ?_
      cases h
      exact n_iret dX12_boat_42 rfl rfl (Nat.le_refl _) (Nat.le_refl _) ⟨rfl, rfl⟩
    · have h := yb_ifn c4 h
      refine n_iload_n (i := 2) dX12_boat_20 rfl rfl ?_
      refine n_iload_n (i := 3) dX12_boat_21 rfl rfl ?_
      refine n_icmp_gt 41 dX12_boat_22 (by decide) (fun c5 => ?_) (fun c5 => ?_)
      · have h := yb_ifp c5 h
        refine n_iconst (-1 : Int32) dX12_boat_41 ic_m1 ?_
        cases h
        exact n_iret dX12_boat_42 rfl rfl (Nat.le_refl _) (Nat.le_refl _) ⟨rfl, rfl⟩
      · have h := yb_ifn c5 h
        refine n_iload_n (i := 3) dX12_boat_25 rfl rfl ?_
        refine n_sipush (200 : Int32) dX12_boat_26 sp_200 ?_
        refine n_icmp_gt 41 dX12_boat_29 (by decide) (fun c6 => ?_) (fun c6 => ?_)
        · have h := yb_ifp c6 h
          refine n_iconst (-1 : Int32) dX12_boat_41 ic_m1 ?_
          cases h
          exact n_iret dX12_boat_42 rfl rfl (Nat.le_refl _) (Nat.le_refl _) ⟨rfl, rfl⟩
        · have h := yb_ifn c6 h
          refine n_aload_n (i := 0) dX12_boat_32 rfl rfl ?_
          refine p_geti fl_X12_573 (sh_176 _ _) rfl dX12_boat_33 ?_
          refine n_bipush (40 : Int32) dX12_boat_36 bp_40 ?_
          refine n_icmp_ne 43 dX12_boat_38 (by decide) (fun c7 => ?_) (fun c7 => ?_)
          · have h := yb_ifn c7 h
            refine n_aload_n (i := 0) dX12_boat_43 rfl rfl ?_
            refine p_getr fl_X12_229 (sh_176 _ _) rfl (rR_176_79 _ _) dX12_boat_44 ?_
            refine n_aload_n (i := 0) dX12_boat_47 rfl rfl ?_
            refine p_geti fl_X12_573 (sh_176 _ _) rfl dX12_boat_48 ?_
            refine n_iload_n (i := 1) dX12_boat_51 rfl rfl ?_
            obtain ⟨s8, hs8, h⟩ := yb_bind h
            refine p_iast hs8 (sh_598 _ _) dX12_boat_52 ?_
            refine n_aload_n (i := 0) dX12_boat_53 rfl rfl ?_
            refine p_getr fl_X12_232 (sh_176 _ _) rfl (rR_176_80 _ _) dX12_boat_54 ?_
            refine n_aload_n (i := 0) dX12_boat_57 rfl rfl ?_
            refine p_geti fl_X12_573 (sh_176 _ _) rfl dX12_boat_58 ?_
            refine n_iload_n (i := 2) dX12_boat_61 rfl rfl ?_
            obtain ⟨s9, hs9, h⟩ := yb_bind h
            refine p_iast hs9 (sh_599 _ _) dX12_boat_62 ?_
            refine n_aload_n (i := 0) dX12_boat_63 rfl rfl ?_
            refine p_getr fl_X12_235 (sh_176 _ _) rfl (rR_176_81 _ _) dX12_boat_64 ?_
            refine n_aload_n (i := 0) dX12_boat_67 rfl rfl ?_
            refine p_geti fl_X12_573 (sh_176 _ _) rfl dX12_boat_68 ?_
            refine n_iload_n (i := 3) dX12_boat_71 rfl rfl ?_
            obtain ⟨s10, hs10, h⟩ := yb_bind h
            refine p_iast hs10 (sh_600 _ _) dX12_boat_72 ?_
            refine n_aload_n (i := 0) dX12_boat_73 rfl rfl ?_
            refine n_dup dX12_boat_74 rfl ?_
            refine p_geti fl_X12_573 (sh_176 _ _) rfl dX12_boat_75 ?_
            refine n_iconst (1 : Int32) dX12_boat_78 ic_1 ?_
            refine n_iadd dX12_boat_79 ?_
            obtain ⟨s11, hs11, h⟩ := yb_bind h
            refine p_puti hs11 fp_X12_573 (sh_176 _ _) rfl rfl rfl dX12_boat_80 ?_
            refine n_aload_n (i := 0) dX12_boat_83 rfl rfl ?_
            refine p_geti fl_X12_573 (sh_176 _ _) rfl dX12_boat_84 ?_
            cases h
            exact n_iret dX12_boat_87 rfl rfl (Nat.le_refl _) (Nat.le_refl _) ⟨rfl, rfl⟩
          · have h := yb_ifp c7 h
            refine n_iconst (-1 : Int32) dX12_boat_41 ic_m1 ?_
            cases h
            exact n_iret dX12_boat_42 rfl rfl (Nat.le_refl _) (Nat.le_refl _) ⟨rfl, rfl⟩
set_option maxHeartbeats 4000000 in
set_option maxRecDepth 20000 in
theorem t_X12_hasEnded {G : yb_G} {X : List (FieldType × Nat)} {a1 : Int32} {s : yb_S} {out : Int32} (h : f_X12_hasEnded a1 s = some out) : Ct G yX12_hasEnded cX12_hasEnded 2 (Option.some .boolean) (yb_rm 2) [.ref (yb_ad G 176), .int a1] (yb_mk s X) (yb_qi X s out) := by
  refine Ct.of (own := RX12) (ini := false) (vs := [some (.ref (yb_ad G 176)), some (.int a1)]) ⟨rfl, by decide +kernel⟩ (fun h => by cases h) (Nat.le_of_ble_eq_true rfl) rfl ?_
  unfold f_X12_hasEnded at h
  refine n_iload_n (i := 1) dX12_hasEnded_0 rfl rfl ?_
  refine n_i2l dX12_hasEnded_1 ?_
  refine n_lconst (0 : Int64) dX12_hasEnded_2 rfl ?_
  refine n_aload_n (i := 0) dX12_hasEnded_3 rfl rfl ?_
  refine p_geti fl_X12_275 (sh_176 _ _) rfl dX12_hasEnded_4 ?_
  refine n_iconst (1 : Int32) dX12_hasEnded_7 ic_1 ?_
  refine n_isub dX12_hasEnded_8 ?_
  refine n_i2l dX12_hasEnded_9 ?_
  obtain ⟨q1, hq1, h⟩ := yb_bind h
  refine p_callSi (As := [.long (a1.toInt64), .long (0 : Int64), .long (((s.1 176 7) - (1 : Int32)).toInt64)]) (t_X12_in hq1) cs_X12_247 rfl rfl (Nat.le_of_ble_eq_true rfl) dX12_hasEnded_10 (yb_rok (Nat.le_of_ble_eq_true rfl) (by decide)) ⟨rfl, rfl⟩ ⟨Nat.le_refl _, Nat.le_refl _⟩ (fun k2 => ?_)
  cases h
  exact n_iret dX12_hasEnded_13 rfl (yb_okv_b k2) (Nat.le_refl _) (Nat.le_refl _) ⟨rfl, rfl⟩
set_option maxHeartbeats 4000000 in
set_option maxRecDepth 20000 in
theorem tj_X12_check_71 {G : yb_G} {X : List (FieldType × Nat)} {Lx : Nat} (hLx : X.length ≤ Lx) {rc30 : (Int32 → yb_S → Option (Int32 × yb_S))} {x1 : Int32} {x2 : Int32} {x3 : Int32} {x4 : Nat} {x5 : Int32} {y0 : Int64} {y1 : Int32} {y2 : Nat} {s : yb_S} {out : (Int32 × yb_S)} (hrc30 : ∀ (x5' : Int32) (s' : yb_S), rc30 x5' s' = some out → Rn G RX12 cX12_check 6 (Option.some .int) false (yb_rmA 3 1 5) (yb_qa Lx out) 1 5 30 [some (.ref (yb_ad G 176)), some (.int x1), some (.int x2), some (.int x3), some (.ref (yb_ad G x4)), some (.int x5')] [] (yb_mk s' X)) (hx4 : ∀ s : yb_S, (yb_mk s X).2.2.2.1 x4 = some (.inr (.long, 5))) (hy2 : ∀ s : yb_S, (yb_mk s X).2.2.2.1 y2 = some (.inr (.long, 5))) (h : j_X12_check_71 rc30 x1 x2 x3 x4 x5 y0 y1 y2 s = some out) : Rn G RX12 cX12_check 6 (Option.some .int) false (yb_rmA 3 1 5) (yb_qa Lx out) 1 5 71 [some (.ref (yb_ad G 176)), some (.int x1), some (.int x2), some (.int x3), some (.ref (yb_ad G x4)), some (.int x5)] [.long y0, .int y1, .ref (yb_ad G y2)] (yb_mk s X) := by
  unfold j_X12_check_71 at h
  obtain ⟨s20, hs20, h⟩ := yb_bind h
  refine p_last hs20 (hy2 _) dX12_check_71 ?_
  refine n_iinc (vs' := [some (.ref (yb_ad G 176)), some (.int x1), some (.int x2), some (.int x3), some (.ref (yb_ad G x4)), some (.int (x5 + (1 : Int32)))]) dX12_check_72 rfl (ii_1 _) (Nat.le_of_ble_eq_true rfl) rfl rfl ?_
  refine n_goto 30 dX12_check_75 (by decide) ?_
  exact p_jump (hrc30 (x5 + (1 : Int32)) s20 h) (And.intro rfl (And.intro rfl (And.intro rfl (And.intro rfl (And.intro rfl (And.intro rfl trivial))))))
set_option maxHeartbeats 4000000 in
set_option maxRecDepth 20000 in
theorem t_l_X12_check_30 {G : yb_G} {X : List (FieldType × Nat)} {Lx : Nat} (hLx : X.length ≤ Lx) {x1 : Int32} {x2 : Int32} {x3 : Int32} {x4 : Nat} {out : (Int32 × yb_S)} (hx4 : ∀ s : yb_S, (yb_mk s X).2.2.2.1 x4 = some (.inr (.long, 5))) : ∀ (k0 : Nat) (x5 : Int32) (s : yb_S), l_X12_check_30 x1 x2 x3 x4 k0 x5 s = some out → Rn G RX12 cX12_check 6 (Option.some .int) false (yb_rmA 3 1 5) (yb_qa Lx out) 1 5 30 [some (.ref (yb_ad G 176)), some (.int x1), some (.int x2), some (.int x3), some (.ref (yb_ad G x4)), some (.int x5)] [] (yb_mk s X) := by
  intro k0
  induction k0 with
  | zero => intro x5 s h; cases h
  | succ k0 ih =>
    intro x5 s h
    have h : f_X12_check_30 (fun x5 s => l_X12_check_30 x1 x2 x3 x4 k0 x5 s) x1 x2 x3 x4 x5 s = some out := h
    have hrc30 := ih
    unfold f_X12_check_30 at h
    refine n_iload dX12_check_30 rfl ?_
    refine n_iconst (5 : Int32) dX12_check_32 ic_5 ?_
    refine n_icmp_ge 78 dX12_check_33 (by decide) (fun c7 => ?_) (fun c7 => ?_)
    · have h := yb_ifp c7 h
      refine n_aload dX12_check_78 rfl ?_
      refine n_iconst (0 : Int32) dX12_check_80 ic_0 ?_
      obtain ⟨v8, hv8, h⟩ := yb_bind h
      refine p_lald hv8 (hx4 _) dX12_check_81 ?_
      refine n_aload dX12_check_82 rfl ?_
      refine n_iconst (1 : Int32) dX12_check_84 ic_1 ?_
      obtain ⟨v9, hv9, h⟩ := yb_bind h
      refine p_lald hv9 (hx4 _) dX12_check_85 ?_
      refine n_ladd dX12_check_86 ?_
      refine n_aload dX12_check_87 rfl ?_
      refine n_iconst (2 : Int32) dX12_check_89 ic_2 ?_
      obtain ⟨v10, hv10, h⟩ := yb_bind h
      refine p_lald hv10 (hx4 _) dX12_check_90 ?_
      refine n_ladd dX12_check_91 ?_
      refine n_aload dX12_check_92 rfl ?_
      refine n_iconst (3 : Int32) dX12_check_94 ic_3 ?_
      obtain ⟨v11, hv11, h⟩ := yb_bind h
      refine p_lald hv11 (hx4 _) dX12_check_95 ?_
      refine n_lcmp dX12_check_96 ?_
      refine n_if_eq 102 dX12_check_97 (by decide) (fun c12 => ?_) (fun c12 => ?_)
      · have h := yb_ifp c12 h
        refine n_aload dX12_check_102 rfl ?_
        refine n_iconst (4 : Int32) dX12_check_104 ic_4 ?_
        obtain ⟨v13, hv13, h⟩ := yb_bind h
        refine p_lald hv13 (hx4 _) dX12_check_105 ?_
        refine n_aload_n (i := 0) dX12_check_106 rfl rfl ?_
        refine p_getr fl_X12_208 (sh_176 _ _) rfl (rR_176_67 _ _) dX12_check_107 ?_
        refine n_iload_n (i := 1) dX12_check_110 rfl rfl ?_
        obtain ⟨r14, hr14, h⟩ := yb_bind h
        refine p_aald hr14 (sh_391 _ _) (by decide) rfl (rF_391 _ _) dX12_check_111 ?_
        refine n_iconst (4 : Int32) dX12_check_112 ic_4 ?_
        obtain ⟨v15, hv15, h⟩ := yb_bind h
        refine p_lald hv15 (shF_391 hr14 _ _) dX12_check_113 ?_
        refine n_lcmp dX12_check_114 ?_
        refine n_if_eq 122 dX12_check_115 (by decide) (fun c16 => ?_) (fun c16 => ?_)
        · have h := yb_ifp c16 h
          refine n_iconst (0 : Int32) dX12_check_122 ic_0 ?_
          cases h
          exact n_iret dX12_check_123 rfl rfl (Nat.le_of_ble_eq_true rfl) (Nat.le_of_ble_eq_true rfl) ⟨rfl, _, rfl, hLx⟩
        · have h := yb_ifn c16 h
          refine n_iconst (2 : Int32) dX12_check_118 ic_2 ?_
          refine n_goto 123 dX12_check_119 (by decide) ?_
          cases h
          exact n_iret dX12_check_123 rfl rfl (Nat.le_of_ble_eq_true rfl) (Nat.le_of_ble_eq_true rfl) ⟨rfl, _, rfl, hLx⟩
      · have h := yb_ifn c12 h
        refine n_iconst (1 : Int32) dX12_check_100 ic_1 ?_
        cases h
        exact n_iret dX12_check_101 rfl rfl (Nat.le_of_ble_eq_true rfl) (Nat.le_of_ble_eq_true rfl) ⟨rfl, _, rfl, hLx⟩
    · have h := yb_ifn c7 h
      refine n_aload dX12_check_36 rfl ?_
      refine n_iload dX12_check_38 rfl ?_
      refine n_iload dX12_check_40 rfl ?_
      refine n_iload_n (i := 2) dX12_check_42 rfl rfl ?_
      refine n_icmp_ne 62 dX12_check_43 (by decide) (fun c17 => ?_) (fun c17 => ?_)
      · have h := yb_ifn c17 h
        refine n_aload_n (i := 0) dX12_check_62 rfl rfl ?_
        refine p_getr fl_X12_208 (sh_176 _ _) rfl (rR_176_67 _ _) dX12_check_63 ?_
        refine n_iload_n (i := 1) dX12_check_66 rfl rfl ?_
        obtain ⟨r18, hr18, h⟩ := yb_bind h
        refine p_aald hr18 (sh_391 _ _) (by decide) rfl (rF_391 _ _) dX12_check_67 ?_
        refine n_iload dX12_check_68 rfl ?_
        obtain ⟨v19, hv19, h⟩ := yb_bind h
        refine p_lald hv19 (shF_391 hr18 _ _) dX12_check_70 ?_
        exact p_jump (tj_X12_check_71 hLx hrc30 hx4 hx4 h) (And.intro rfl (And.intro rfl (And.intro rfl (And.intro rfl (And.intro rfl (And.intro rfl trivial))))))
      · have h := yb_ifp c17 h
        refine n_aload_n (i := 0) dX12_check_46 rfl rfl ?_
        refine p_getr fl_X12_208 (sh_176 _ _) rfl (rR_176_67 _ _) dX12_check_47 ?_
        refine n_iload_n (i := 1) dX12_check_50 rfl rfl ?_
        obtain ⟨r21, hr21, h⟩ := yb_bind h
        refine p_aald hr21 (sh_391 _ _) (by decide) rfl (rF_391 _ _) dX12_check_51 ?_
        refine n_iload dX12_check_52 rfl ?_
        obtain ⟨v22, hv22, h⟩ := yb_bind h
        refine p_lald hv22 (shF_391 hr21 _ _) dX12_check_54 ?_
        refine n_l2i dX12_check_55 ?_
        refine n_iload_n (i := 3) dX12_check_56 rfl rfl ?_
        refine n_ixor dX12_check_57 ?_
        refine n_i2l dX12_check_58 ?_
        refine n_goto 71 dX12_check_59 (by decide) ?_
        exact p_jump (tj_X12_check_71 hLx hrc30 hx4 hx4 h) (And.intro rfl (And.intro rfl (And.intro rfl (And.intro rfl (And.intro rfl (And.intro rfl trivial))))))
set_option maxHeartbeats 4000000 in
set_option maxRecDepth 20000 in
theorem tl_X12_check_30 {G : yb_G} {X : List (FieldType × Nat)} {Lx : Nat} (hLx : X.length ≤ Lx) {x1 : Int32} {x2 : Int32} {x3 : Int32} {x4 : Nat} {out : (Int32 × yb_S)} (hx4 : ∀ s : yb_S, (yb_mk s X).2.2.2.1 x4 = some (.inr (.long, 5))) {x5 : Int32} {s : yb_S} (h : l_X12_check_30 x1 x2 x3 x4 yb_N x5 s = some out) : Rn G RX12 cX12_check 6 (Option.some .int) false (yb_rmA 3 1 5) (yb_qa Lx out) 1 5 30 [some (.ref (yb_ad G 176)), some (.int x1), some (.int x2), some (.int x3), some (.ref (yb_ad G x4)), some (.int x5)] [] (yb_mk s X) := t_l_X12_check_30 hLx hx4 _ _ _ h
set_option maxHeartbeats 4000000 in
set_option maxRecDepth 20000 in
theorem t_X12_check {G : yb_G} {X : List (FieldType × Nat)} {a1 : Int32} {a2 : Int32} {a3 : Int32} {nx : Nat} {s : yb_S} {out : (Int32 × yb_S)} {Lx : Nat} (hnx : 603 + X.length = nx) (hlim : nx + 1 ≤ 100000) (hL1 : X.length + 1 ≤ Lx) (h : f_X12_check a1 a2 a3 nx s = some out) : Ct G yX12_check cX12_check 6 (Option.some .int) (yb_rmA 3 1 5) [.ref (yb_ad G 176), .int a1, .int a2, .int a3] (yb_mk s X) (yb_qa Lx out) := by
  refine Ct.of (own := RX12) (ini := false) (vs := [some (.ref (yb_ad G 176)), some (.int a1), some (.int a2), some (.int a3), none, none]) ⟨rfl, by decide +kernel⟩ (fun h => by cases h) (Nat.le_of_ble_eq_true rfl) rfl ?_
  unfold f_X12_check at h
  have hLx : X.length ≤ Lx := Nat.le_of_succ_le hL1
  refine n_aload_n (i := 0) dX12_check_0 rfl rfl ?_
  refine n_iload_n (i := 1) dX12_check_1 rfl rfl ?_
  obtain ⟨q1, hq1, h⟩ := yb_bind h
  refine p_callVi (As := [.int a1]) (t_X12_hasEnded hq1) cv_X12_539 (sh_176 _ _) rfl rfl (Nat.le_of_ble_eq_true rfl) dX12_check_2 (yb_rokA (Nat.le_of_ble_eq_true rfl) (by decide)) ⟨rfl, rfl⟩ ⟨Nat.le_of_ble_eq_true rfl, Nat.le_of_ble_eq_true rfl⟩ (fun k2 => ?_)
  refine n_if_eq 20 dX12_check_5 (by decide) (fun c3 => ?_) (fun c3 => ?_)
  · have h := yb_ifp c3 h
    refine n_iconst (-1 : Int32) dX12_check_20 ic_m1 ?_
    cases h
    exact n_iret dX12_check_21 rfl rfl (Nat.le_of_ble_eq_true rfl) (Nat.le_of_ble_eq_true rfl) ⟨rfl, _, rfl, hLx⟩
  · have h := yb_ifn c3 h
    refine n_iload_n (i := 2) dX12_check_8 rfl rfl ?_
    refine n_i2l dX12_check_9 ?_
    refine n_lconst (0 : Int64) dX12_check_10 rfl ?_
    refine n_ldc2 (4 : Int64) k_X12_590 dX12_check_11 ?_
    obtain ⟨q4, hq4, h⟩ := yb_bind h
    refine p_callSi (As := [.long (a2.toInt64), .long (0 : Int64), .long (4 : Int64)]) (t_X12_in hq4) cs_X12_247 rfl rfl (Nat.le_of_ble_eq_true rfl) dX12_check_14 (yb_rokA (Nat.le_of_ble_eq_true rfl) (by decide)) ⟨rfl, rfl⟩ ⟨Nat.le_of_ble_eq_true rfl, Nat.le_of_ble_eq_true rfl⟩ (fun k5 => ?_)
    refine n_if_ne 22 dX12_check_17 (by decide) (fun c6 => ?_) (fun c6 => ?_)
    · have h := yb_ifn c6 h
      refine n_iconst (5 : Int32) dX12_check_22 ic_5 ?_
      obtain ⟨s0, hs0, h⟩ := yb_bind h
      cases hs0
      refine p_newlong (n := 5) wA_long hnx hlim (by decide) ⟨by decide, by decide⟩ dX12_check_23 ⟨Nat.le_of_ble_eq_true rfl, Nat.le_of_ble_eq_true rfl⟩ ?_
      have hrnx : ∀ s : yb_S, (yb_mk s (X ++ [(.long, 5)])).2.2.2.1 nx = some (.inr (.long, 5)) := fun s => yb_sh_new hnx
      have hLx : (X ++ [(FieldType.long, 5)]).length ≤ Lx := by rw [List.length_append]; exact hL1
      generalize X ++ [(FieldType.long, 5)] = X at hrnx hLx ⊢
      generalize yb_zL s nx = s0 at h ⊢
      refine n_astore (i := 4) (vs' := [some (.ref (yb_ad G 176)), some (.int a1), some (.int a2), some (.int a3), some (.ref (yb_ad G nx)), none]) dX12_check_25 (Nat.le_of_ble_eq_true rfl) rfl rfl ?_
      refine n_iconst (0 : Int32) dX12_check_27 ic_0 ?_
      refine n_istore (i := 5) (vs' := [some (.ref (yb_ad G 176)), some (.int a1), some (.int a2), some (.int a3), some (.ref (yb_ad G nx)), some (.int (0 : Int32))]) dX12_check_28 (Nat.le_of_ble_eq_true rfl) rfl rfl ?_
      exact p_jump (tl_X12_check_30 hLx hrnx h) (And.intro rfl (And.intro rfl (And.intro rfl (And.intro rfl (And.intro rfl (And.intro rfl trivial))))))
    · have h := yb_ifp c6 h
      refine n_iconst (-1 : Int32) dX12_check_20 ic_m1 ?_
      cases h
      exact n_iret dX12_check_21 rfl rfl (Nat.le_of_ble_eq_true rfl) (Nat.le_of_ble_eq_true rfl) ⟨rfl, _, rfl, hLx⟩
set_option maxHeartbeats 4000000 in
set_option maxRecDepth 20000 in
theorem t_X12_isLetter {G : yb_G} {X : List (FieldType × Nat)} {a0 : Int32} {s : yb_S} {out : Int32} (h : f_X12_isLetter a0 s = some out) : Ct G yX12_isLetter cX12_isLetter 1 (Option.some .boolean) (yb_rm 1) [.int a0] (yb_mk s X) (yb_qi X s out) := by
  refine Ct.of (own := RX12) (ini := false) (vs := [some (.int a0)]) ⟨rfl, by decide +kernel⟩ (fun h => by cases h) (Nat.le_of_ble_eq_true rfl) rfl ?_
  unfold f_X12_isLetter at h
  refine n_iload_n (i := 0) dX12_isLetter_0 rfl rfl ?_
  refine n_bipush (97 : Int32) dX12_isLetter_1 bp_97 ?_
  refine n_icmp_lt 16 dX12_isLetter_3 (by decide) (fun c1 => ?_) (fun c1 => ?_)
  · have h := yb_ifp c1 h
    refine n_iconst (0 : Int32) dX12_isLetter_16 ic_0 ?_
    cases h
    exact n_iret dX12_isLetter_17 rfl (by decide) (Nat.le_refl _) (Nat.le_refl _) ⟨rfl, rfl⟩
  · have h := yb_ifn c1 h
    refine n_iload_n (i := 0) dX12_isLetter_6 rfl rfl ?_
    refine n_bipush (122 : Int32) dX12_isLetter_7 bp_122 ?_
    refine n_icmp_gt 16 dX12_isLetter_9 (by decide) (fun c2 => ?_) (fun c2 => ?_)
    · have h := yb_ifp c2 h
      refine n_iconst (0 : Int32) dX12_isLetter_16 ic_0 ?_
      cases h
      exact n_iret dX12_isLetter_17 rfl (by decide) (Nat.le_refl _) (Nat.le_refl _) ⟨rfl, rfl⟩
    · have h := yb_ifn c2 h
      refine n_iconst (1 : Int32) dX12_isLetter_12 ic_1 ?_
      refine n_goto 17 dX12_isLetter_13 (by decide) ?_
      cases h
      exact n_iret dX12_isLetter_17 rfl (by decide) (Nat.le_refl _) (Nat.le_refl _) ⟨rfl, rfl⟩
set_option maxHeartbeats 4000000 in
set_option maxRecDepth 20000 in
theorem t_X12_isDigit {G : yb_G} {X : List (FieldType × Nat)} {a0 : Int32} {s : yb_S} {out : Int32} (h : f_X12_isDigit a0 s = some out) : Ct G yX12_isDigit cX12_isDigit 1 (Option.some .boolean) (yb_rm 1) [.int a0] (yb_mk s X) (yb_qi X s out) := by
  refine Ct.of (own := RX12) (ini := false) (vs := [some (.int a0)]) ⟨rfl, by decide +kernel⟩ (fun h => by cases h) (Nat.le_of_ble_eq_true rfl) rfl ?_
  unfold f_X12_isDigit at h
  refine n_iload_n (i := 0) dX12_isDigit_0 rfl rfl ?_
  refine n_bipush (48 : Int32) dX12_isDigit_1 bp_48 ?_
  refine n_icmp_lt 16 dX12_isDigit_3 (by decide) (fun c1 => ?_) (fun c1 => ?_)
  · have h := yb_ifp c1 h
    refine n_iconst (0 : Int32) dX12_isDigit_16 ic_0 ?_
    cases h
    exact n_iret dX12_isDigit_17 rfl (by decide) (Nat.le_refl _) (Nat.le_refl _) ⟨rfl, rfl⟩
  · have h := yb_ifn c1 h
    refine n_iload_n (i := 0) dX12_isDigit_6 rfl rfl ?_
    refine n_bipush (57 : Int32) dX12_isDigit_7 bp_57 ?_
    refine n_icmp_gt 16 dX12_isDigit_9 (by decide) (fun c2 => ?_) (fun c2 => ?_)
    · have h := yb_ifp c2 h
      refine n_iconst (0 : Int32) dX12_isDigit_16 ic_0 ?_
      cases h
      exact n_iret dX12_isDigit_17 rfl (by decide) (Nat.le_refl _) (Nat.le_refl _) ⟨rfl, rfl⟩
    · have h := yb_ifn c2 h
      refine n_iconst (1 : Int32) dX12_isDigit_12 ic_1 ?_
      refine n_goto 17 dX12_isDigit_13 (by decide) ?_
      cases h
      exact n_iret dX12_isDigit_17 rfl (by decide) (Nat.le_refl _) (Nat.le_refl _) ⟨rfl, rfl⟩
set_option maxHeartbeats 4000000 in
set_option maxRecDepth 20000 in
theorem t_l_X12_skips_141 {G : yb_G} {X : List (FieldType × Nat)} {out : yb_S} : ∀ (k0 : Nat) (s : yb_S), l_X12_skips_141 k0 s = some out → Rn G RX12 cX12_skips 1 none false (yb_rm 2) (yb_qv X out) 0 0 141 [some (.ref (yb_ad G 176))] [] (yb_mk s X) := by
  intro k0
  induction k0 with
  | zero => intro s h; cases h
  | succ k0 ih =>
    intro s h
    have h : f_X12_skips_141 (fun s => l_X12_skips_141 k0 s) s = some out := h
    have hrc141 := ih
    unfold f_X12_skips_141 at h
    refine n_aload_n (i := 0) dX12_skips_141 rfl rfl ?_
    refine p_geti fl_X12_353 (sh_176 _ _) rfl dX12_skips_142 ?_
    refine n_aload_n (i := 0) dX12_skips_145 rfl rfl ?_
    refine p_geti fl_X12_343 (sh_176 _ _) rfl dX12_skips_146 ?_
    refine n_icmp_ge 190 dX12_skips_149 (by decide) (fun c13 => ?_) (fun c13 => ?_)
    · have h := yb_ifp c13 h
      cases h
      exact n_vret dX12_skips_190 rfl (Nat.le_refl _) (Nat.le_refl _) ⟨rfl, rfl⟩
    · have h := yb_ifn c13 h
      refine n_aload_n (i := 0) dX12_skips_152 rfl rfl ?_
      refine p_getr fl_X12_119 (sh_176 _ _) rfl (rR_176_43 _ _) dX12_skips_153 ?_
      refine n_aload_n (i := 0) dX12_skips_156 rfl rfl ?_
      refine p_geti fl_X12_353 (sh_176 _ _) rfl dX12_skips_157 ?_
      obtain ⟨v14, hv14, h⟩ := yb_bind h
      refine p_bald hv14 (sh_242 _ _) dX12_skips_160 ?_
      obtain ⟨q15, hq15, h⟩ := yb_bind h
      refine p_callSi (As := [.int v14]) (t_X12_isDigit hq15) cs_X12_359 rfl rfl (Nat.le_of_ble_eq_true rfl) dX12_skips_161 (yb_rok (Nat.le_of_ble_eq_true rfl) (by decide)) ⟨rfl, rfl⟩ ⟨Nat.le_refl _, Nat.le_refl _⟩ (fun k16 => ?_)
      refine n_if_eq 190 dX12_skips_164 (by decide) (fun c17 => ?_) (fun c17 => ?_)
      · have h := yb_ifp c17 h
        cases h
        exact n_vret dX12_skips_190 rfl (Nat.le_refl _) (Nat.le_refl _) ⟨rfl, rfl⟩
      · have h := yb_ifn c17 h
        refine n_aload_n (i := 0) dX12_skips_167 rfl rfl ?_
        refine n_dup dX12_skips_168 rfl ?_
        refine p_geti fl_X12_353 (sh_176 _ _) rfl dX12_skips_169 ?_
        refine n_iconst (1 : Int32) dX12_skips_172 ic_1 ?_
        refine n_iadd dX12_skips_173 ?_
        obtain ⟨s18, hs18, h⟩ := yb_bind h
        refine p_puti hs18 fp_X12_353 (sh_176 _ _) rfl rfl rfl dX12_skips_174 ?_
        refine n_goto 141 dX12_skips_177 (by decide) ?_
        exact p_jump (hrc141  s18 h) (And.intro rfl trivial)
set_option maxHeartbeats 4000000 in
set_option maxRecDepth 20000 in
theorem tl_X12_skips_141 {G : yb_G} {X : List (FieldType × Nat)} {out : yb_S} {s : yb_S} (h : l_X12_skips_141 yb_N s = some out) : Rn G RX12 cX12_skips 1 none false (yb_rm 2) (yb_qv X out) 0 0 141 [some (.ref (yb_ad G 176))] [] (yb_mk s X) := t_l_X12_skips_141 _ _ h
set_option maxHeartbeats 4000000 in
set_option maxRecDepth 20000 in
theorem t_l_X12_skips_87 {G : yb_G} {X : List (FieldType × Nat)} {out : yb_S} : ∀ (k0 : Nat) (s : yb_S), l_X12_skips_87 k0 s = some out → Rn G RX12 cX12_skips 1 none false (yb_rm 2) (yb_qv X out) 0 0 87 [some (.ref (yb_ad G 176))] [] (yb_mk s X) := by
  intro k0
  induction k0 with
  | zero => intro s h; cases h
  | succ k0 ih =>
    intro s h
    have h : f_X12_skips_87 (fun s => l_X12_skips_87 k0 s) s = some out := h
    have hrc87 := ih
    unfold f_X12_skips_87 at h
    refine n_aload_n (i := 0) dX12_skips_87 rfl rfl ?_
    refine p_geti fl_X12_353 (sh_176 _ _) rfl dX12_skips_88 ?_
    refine n_aload_n (i := 0) dX12_skips_91 rfl rfl ?_
    refine p_geti fl_X12_343 (sh_176 _ _) rfl dX12_skips_92 ?_
    refine n_icmp_ge 190 dX12_skips_95 (by decide) (fun c19 => ?_) (fun c19 => ?_)
    · have h := yb_ifp c19 h
      cases h
      exact n_vret dX12_skips_190 rfl (Nat.le_refl _) (Nat.le_refl _) ⟨rfl, rfl⟩
    · have h := yb_ifn c19 h
      refine n_aload_n (i := 0) dX12_skips_98 rfl rfl ?_
      refine p_getr fl_X12_119 (sh_176 _ _) rfl (rR_176_43 _ _) dX12_skips_99 ?_
      refine n_aload_n (i := 0) dX12_skips_102 rfl rfl ?_
      refine p_geti fl_X12_353 (sh_176 _ _) rfl dX12_skips_103 ?_
      obtain ⟨v20, hv20, h⟩ := yb_bind h
      refine p_bald hv20 (sh_242 _ _) dX12_skips_106 ?_
      obtain ⟨q21, hq21, h⟩ := yb_bind h
      refine p_callSi (As := [.int v20]) (t_X12_isLetter hq21) cs_X12_356 rfl rfl (Nat.le_of_ble_eq_true rfl) dX12_skips_107 (yb_rok (Nat.le_of_ble_eq_true rfl) (by decide)) ⟨rfl, rfl⟩ ⟨Nat.le_refl _, Nat.le_refl _⟩ (fun k22 => ?_)
      refine n_if_eq 190 dX12_skips_110 (by decide) (fun c23 => ?_) (fun c23 => ?_)
      · have h := yb_ifp c23 h
        cases h
        exact n_vret dX12_skips_190 rfl (Nat.le_refl _) (Nat.le_refl _) ⟨rfl, rfl⟩
      · have h := yb_ifn c23 h
        refine n_aload_n (i := 0) dX12_skips_113 rfl rfl ?_
        refine n_dup dX12_skips_114 rfl ?_
        refine p_geti fl_X12_353 (sh_176 _ _) rfl dX12_skips_115 ?_
        refine n_iconst (1 : Int32) dX12_skips_118 ic_1 ?_
        refine n_iadd dX12_skips_119 ?_
        obtain ⟨s24, hs24, h⟩ := yb_bind h
        refine p_puti hs24 fp_X12_353 (sh_176 _ _) rfl rfl rfl dX12_skips_120 ?_
        refine n_goto 87 dX12_skips_123 (by decide) ?_
        exact p_jump (hrc87  s24 h) (And.intro rfl trivial)
set_option maxHeartbeats 4000000 in
set_option maxRecDepth 20000 in
theorem tl_X12_skips_87 {G : yb_G} {X : List (FieldType × Nat)} {out : yb_S} {s : yb_S} (h : l_X12_skips_87 yb_N s = some out) : Rn G RX12 cX12_skips 1 none false (yb_rm 2) (yb_qv X out) 0 0 87 [some (.ref (yb_ad G 176))] [] (yb_mk s X) := t_l_X12_skips_87 _ _ h
set_option maxHeartbeats 4000000 in
set_option maxRecDepth 20000 in
theorem tj_X12_skips_52 {G : yb_G} {X : List (FieldType × Nat)} {s : yb_S} {out : yb_S} (h : j_X12_skips_52 s = some out) : Rn G RX12 cX12_skips 1 none false (yb_rm 2) (yb_qv X out) 0 0 52 [some (.ref (yb_ad G 176))] [] (yb_mk s X) := by
  unfold j_X12_skips_52 at h
  refine n_aload_n (i := 0) dX12_skips_52 rfl rfl ?_
  refine n_aload_n (i := 0) dX12_skips_53 rfl rfl ?_
  refine p_geti fl_X12_350 (sh_176 _ _) rfl dX12_skips_54 ?_
  obtain ⟨s2, hs2, h⟩ := yb_bind h
  refine p_puti hs2 fp_X12_353 (sh_176 _ _) rfl rfl rfl dX12_skips_57 ?_
  refine n_aload_n (i := 0) dX12_skips_60 rfl rfl ?_
  refine p_geti fl_X12_350 (sh_176 _ _) rfl dX12_skips_61 ?_
  refine n_aload_n (i := 0) dX12_skips_64 rfl rfl ?_
  refine p_geti fl_X12_343 (sh_176 _ _) rfl dX12_skips_65 ?_
  refine n_icmp_ne 72 dX12_skips_68 (by decide) (fun c3 => ?_) (fun c3 => ?_)
  · have h := yb_ifn c3 h
    refine n_aload_n (i := 0) dX12_skips_72 rfl rfl ?_
    refine p_getr fl_X12_119 (sh_176 _ _) rfl (rR_176_43 _ _) dX12_skips_73 ?_
    refine n_aload_n (i := 0) dX12_skips_76 rfl rfl ?_
    refine p_geti fl_X12_350 (sh_176 _ _) rfl dX12_skips_77 ?_
    obtain ⟨v4, hv4, h⟩ := yb_bind h
    refine p_bald hv4 (sh_242 _ _) dX12_skips_80 ?_
    obtain ⟨q5, hq5, h⟩ := yb_bind h
    refine p_callSi (As := [.int v4]) (t_X12_isLetter hq5) cs_X12_356 rfl rfl (Nat.le_of_ble_eq_true rfl) dX12_skips_81 (yb_rok (Nat.le_of_ble_eq_true rfl) (by decide)) ⟨rfl, rfl⟩ ⟨Nat.le_refl _, Nat.le_refl _⟩ (fun k6 => ?_)
    refine n_if_eq 126 dX12_skips_84 (by decide) (fun c7 => ?_) (fun c7 => ?_)
    · have h := yb_ifp c7 h
      refine n_aload_n (i := 0) dX12_skips_126 rfl rfl ?_
      refine p_getr fl_X12_119 (sh_176 _ _) rfl (rR_176_43 _ _) dX12_skips_127 ?_
      refine n_aload_n (i := 0) dX12_skips_130 rfl rfl ?_
      refine p_geti fl_X12_350 (sh_176 _ _) rfl dX12_skips_131 ?_
      obtain ⟨v8, hv8, h⟩ := yb_bind h
      refine p_bald hv8 (sh_242 _ _) dX12_skips_134 ?_
      obtain ⟨q9, hq9, h⟩ := yb_bind h
      refine p_callSi (As := [.int v8]) (t_X12_isDigit hq9) cs_X12_359 rfl rfl (Nat.le_of_ble_eq_true rfl) dX12_skips_135 (yb_rok (Nat.le_of_ble_eq_true rfl) (by decide)) ⟨rfl, rfl⟩ ⟨Nat.le_refl _, Nat.le_refl _⟩ (fun k10 => ?_)
      refine n_if_eq 180 dX12_skips_138 (by decide) (fun c11 => ?_) (fun c11 => ?_)
      · have h := yb_ifp c11 h
        refine n_aload_n (i := 0) dX12_skips_180 rfl rfl ?_
        refine n_aload_n (i := 0) dX12_skips_181 rfl rfl ?_
        refine p_geti fl_X12_350 (sh_176 _ _) rfl dX12_skips_182 ?_
        refine n_iconst (1 : Int32) dX12_skips_185 ic_1 ?_
        refine n_iadd dX12_skips_186 ?_
        obtain ⟨s12, hs12, h⟩ := yb_bind h
        refine p_puti hs12 fp_X12_353 (sh_176 _ _) rfl rfl rfl dX12_skips_187 ?_
        cases h
        exact n_vret dX12_skips_190 rfl (Nat.le_refl _) (Nat.le_refl _) ⟨rfl, rfl⟩
      · have h := yb_ifn c11 h
        exact p_jump (tl_X12_skips_141 h) (And.intro rfl trivial)
    · have h := yb_ifn c7 h
      exact p_jump (tl_X12_skips_87 h) (And.intro rfl trivial)
  · have h := yb_ifp c3 h
    cases h
    exact n_vret dX12_skips_71 rfl (Nat.le_refl _) (Nat.le_refl _) ⟨rfl, rfl⟩
set_option maxHeartbeats 4000000 in
set_option maxRecDepth 20000 in
theorem tj_X12_skips_39 {G : yb_G} {X : List (FieldType × Nat)} {rc0 : (yb_S → Option yb_S)} {s : yb_S} {out : yb_S} (hrc0 : ∀ (s' : yb_S), rc0 s' = some out → Rn G RX12 cX12_skips 1 none false (yb_rm 2) (yb_qv X out) 0 0 0 [some (.ref (yb_ad G 176))] [] (yb_mk s' X)) (h : j_X12_skips_39 rc0 s = some out) : Rn G RX12 cX12_skips 1 none false (yb_rm 2) (yb_qv X out) 0 0 39 [some (.ref (yb_ad G 176))] [] (yb_mk s X) := by
  unfold j_X12_skips_39 at h
  refine n_aload_n (i := 0) dX12_skips_39 rfl rfl ?_
  refine n_dup dX12_skips_40 rfl ?_
  refine p_geti fl_X12_350 (sh_176 _ _) rfl dX12_skips_41 ?_
  refine n_iconst (1 : Int32) dX12_skips_44 ic_1 ?_
  refine n_iadd dX12_skips_45 ?_
  obtain ⟨s27, hs27, h⟩ := yb_bind h
  refine p_puti hs27 fp_X12_350 (sh_176 _ _) rfl rfl rfl dX12_skips_46 ?_
  refine n_goto 0 dX12_skips_49 (by decide) ?_
  exact p_jump (hrc0  s27 h) (And.intro rfl trivial)
set_option maxHeartbeats 4000000 in
set_option maxRecDepth 20000 in
theorem t_l_X12_skips_0 {G : yb_G} {X : List (FieldType × Nat)} {out : yb_S} : ∀ (k0 : Nat) (s : yb_S), l_X12_skips_0 k0 s = some out → Rn G RX12 cX12_skips 1 none false (yb_rm 2) (yb_qv X out) 0 0 0 [some (.ref (yb_ad G 176))] [] (yb_mk s X) := by
  intro k0
  induction k0 with
  | zero => intro s h; cases h
  | succ k0 ih =>
    intro s h
    have h : f_X12_skips_0 (fun s => l_X12_skips_0 k0 s) s = some out := h
    have hrc0 := ih
    unfold f_X12_skips_0 at h
    refine n_aload_n (i := 0) dX12_skips_0 rfl rfl ?_
    refine p_geti fl_X12_350 (sh_176 _ _) rfl dX12_skips_1 ?_
    refine n_aload_n (i := 0) dX12_skips_4 rfl rfl ?_
    refine p_geti fl_X12_343 (sh_176 _ _) rfl dX12_skips_5 ?_
    refine n_icmp_ge 52 dX12_skips_8 (by decide) (fun c1 => ?_) (fun c1 => ?_)
    · have h := yb_ifp c1 h
      exact p_jump (tj_X12_skips_52 h) (And.intro rfl trivial)
    · have h := yb_ifn c1 h
      refine n_aload_n (i := 0) dX12_skips_11 rfl rfl ?_
      refine p_getr fl_X12_119 (sh_176 _ _) rfl (rR_176_43 _ _) dX12_skips_12 ?_
      refine n_aload_n (i := 0) dX12_skips_15 rfl rfl ?_
      refine p_geti fl_X12_350 (sh_176 _ _) rfl dX12_skips_16 ?_
      obtain ⟨v25, hv25, h⟩ := yb_bind h
      refine p_bald hv25 (sh_242 _ _) dX12_skips_19 ?_
      refine n_bipush (32 : Int32) dX12_skips_20 bp_32 ?_
      refine n_icmp_eq 39 dX12_skips_22 (by decide) (fun c26 => ?_) (fun c26 => ?_)
      · have h := yb_ifp c26 h
        exact p_jump (tj_X12_skips_39 hrc0 h) (And.intro rfl trivial)
      · have h := yb_ifn c26 h
        refine n_aload_n (i := 0) dX12_skips_25 rfl rfl ?_
        refine p_getr fl_X12_119 (sh_176 _ _) rfl (rR_176_43 _ _) dX12_skips_26 ?_
        refine n_aload_n (i := 0) dX12_skips_29 rfl rfl ?_
        refine p_geti fl_X12_350 (sh_176 _ _) rfl dX12_skips_30 ?_
        obtain ⟨v28, hv28, h⟩ := yb_bind h
        refine p_bald hv28 (sh_242 _ _) dX12_skips_33 ?_
        refine n_bipush (10 : Int32) dX12_skips_34 bp_10 ?_
        refine n_icmp_ne 52 dX12_skips_36 (by decide) (fun c29 => ?_) (fun c29 => ?_)
        · have h := yb_ifn c29 h
          exact p_jump (tj_X12_skips_52 h) (And.intro rfl trivial)
        · have h := yb_ifp c29 h
          exact p_jump (tj_X12_skips_39 hrc0 h) (And.intro rfl trivial)
set_option maxHeartbeats 4000000 in
set_option maxRecDepth 20000 in
theorem tl_X12_skips_0 {G : yb_G} {X : List (FieldType × Nat)} {out : yb_S} {s : yb_S} (h : l_X12_skips_0 yb_N s = some out) : Rn G RX12 cX12_skips 1 none false (yb_rm 2) (yb_qv X out) 0 0 0 [some (.ref (yb_ad G 176))] [] (yb_mk s X) := t_l_X12_skips_0 _ _ h
set_option maxHeartbeats 4000000 in
set_option maxRecDepth 20000 in
theorem t_X12_skips {G : yb_G} {X : List (FieldType × Nat)} {s : yb_S} {out : yb_S} (h : f_X12_skips s = some out) : Ct G yX12_skips cX12_skips 1 none (yb_rm 2) [.ref (yb_ad G 176)] (yb_mk s X) (yb_qv X out) := by
  refine Ct.of (own := RX12) (ini := false) (vs := [some (.ref (yb_ad G 176))]) ⟨rfl, by decide +kernel⟩ (fun h => by cases h) (Nat.le_of_ble_eq_true rfl) rfl ?_
  unfold f_X12_skips at h
  exact p_jump (tl_X12_skips_0 h) (And.intro rfl trivial)
set_option maxHeartbeats 4000000 in
set_option maxRecDepth 20000 in
theorem t_X12_goesOn {G : yb_G} {X : List (FieldType × Nat)} {s : yb_S} {out : yb_S} (h : f_X12_goesOn s = some out) : Ct G yX12_goesOn cX12_goesOn 1 none (yb_rm 3) [.ref (yb_ad G 176)] (yb_mk s X) (yb_qv X out) := by
  refine Ct.of (own := RX12) (ini := false) (vs := [some (.ref (yb_ad G 176))]) ⟨rfl, by decide +kernel⟩ (fun h => by cases h) (Nat.le_of_ble_eq_true rfl) rfl ?_
  unfold f_X12_goesOn at h
  refine n_aload_n (i := 0) dX12_goesOn_0 rfl rfl ?_
  refine n_aload_n (i := 0) dX12_goesOn_1 rfl rfl ?_
  refine p_geti fl_X12_353 (sh_176 _ _) rfl dX12_goesOn_2 ?_
  obtain ⟨s1, hs1, h⟩ := yb_bind h
  refine p_puti hs1 fp_X12_350 (sh_176 _ _) rfl rfl rfl dX12_goesOn_5 ?_
  refine n_aload_n (i := 0) dX12_goesOn_8 rfl rfl ?_
  obtain ⟨q2, hq2, h⟩ := yb_bind h
  refine p_callVv (As := []) (t_X12_skips hq2) cv_X12_362 (sh_176 _ _) rfl rfl (Nat.le_of_ble_eq_true rfl) dX12_goesOn_9 (yb_rok (Nat.le_of_ble_eq_true rfl) (by decide)) ⟨rfl, rfl⟩ ⟨Nat.le_refl _, Nat.le_refl _⟩ (fun k3 => ?_)
  cases h
  exact n_vret dX12_goesOn_12 rfl (Nat.le_refl _) (Nat.le_refl _) ⟨rfl, rfl⟩
set_option maxHeartbeats 4000000 in
set_option maxRecDepth 20000 in
theorem t_X12_fails {G : yb_G} {X : List (FieldType × Nat)} {s : yb_S} {out : (Int32 × yb_S)} (h : f_X12_fails s = some out) : Ct G yX12_fails cX12_fails 1 (Option.some .boolean) (yb_rm 1) [.ref (yb_ad G 176)] (yb_mk s X) (yb_qi X out.2 out.1) := by
  refine Ct.of (own := RX12) (ini := false) (vs := [some (.ref (yb_ad G 176))]) ⟨rfl, by decide +kernel⟩ (fun h => by cases h) (Nat.le_of_ble_eq_true rfl) rfl ?_
  unfold f_X12_fails at h
  refine n_aload_n (i := 0) dX12_fails_0 rfl rfl ?_
  refine p_geti fl_X12_373 (sh_176 _ _) rfl dX12_fails_1 ?_
  refine n_iconst (-1 : Int32) dX12_fails_4 ic_m1 ?_
  refine n_icmp_ne 16 dX12_fails_5 (by decide) (fun c1 => ?_) (fun c1 => ?_)
  · have h := yb_ifn c1 h
    refine n_iconst (0 : Int32) dX12_fails_16 ic_0 ?_
    cases h
    exact n_iret dX12_fails_17 rfl (by decide) (Nat.le_refl _) (Nat.le_refl _) ⟨rfl, rfl⟩
  · have h := yb_ifp c1 h
    refine n_aload_n (i := 0) dX12_fails_8 rfl rfl ?_
    refine n_aload_n (i := 0) dX12_fails_9 rfl rfl ?_
    refine p_geti fl_X12_350 (sh_176 _ _) rfl dX12_fails_10 ?_
    obtain ⟨s2, hs2, h⟩ := yb_bind h
    refine p_puti hs2 fp_X12_373 (sh_176 _ _) rfl rfl rfl dX12_fails_13 ?_
    refine n_iconst (0 : Int32) dX12_fails_16 ic_0 ?_
    cases h
    exact n_iret dX12_fails_17 rfl (by decide) (Nat.le_refl _) (Nat.le_refl _) ⟨rfl, rfl⟩
set_option maxHeartbeats 4000000 in
set_option maxRecDepth 20000 in
theorem t_X12_passes {G : yb_G} {X : List (FieldType × Nat)} {a1 : Int32} {s : yb_S} {out : (Int32 × yb_S)} (h : f_X12_passes a1 s = some out) : Ct G yX12_passes cX12_passes 2 (Option.some .boolean) (yb_rm 4) [.ref (yb_ad G 176), .int a1] (yb_mk s X) (yb_qi X out.2 out.1) := by
  refine Ct.of (own := RX12) (ini := false) (vs := [some (.ref (yb_ad G 176)), some (.int a1)]) ⟨rfl, by decide +kernel⟩ (fun h => by cases h) (Nat.le_of_ble_eq_true rfl) rfl ?_
  unfold f_X12_passes at h
  refine n_iload_n (i := 1) dX12_passes_0 rfl rfl ?_
  refine n_if_ne 9 dX12_passes_1 (by decide) (fun c1 => ?_) (fun c1 => ?_)
  · have h := yb_ifn c1 h
    refine n_aload_n (i := 0) dX12_passes_9 rfl rfl ?_
    obtain ⟨q2, hq2, h⟩ := yb_bind h
    refine p_callVv (As := []) (t_X12_goesOn hq2) cv_X12_380 (sh_176 _ _) rfl rfl (Nat.le_of_ble_eq_true rfl) dX12_passes_10 (yb_rok (Nat.le_of_ble_eq_true rfl) (by decide)) ⟨rfl, rfl⟩ ⟨Nat.le_refl _, Nat.le_refl _⟩ (fun k3 => ?_)
    refine n_iconst (1 : Int32) dX12_passes_13 ic_1 ?_
    cases h
    exact n_iret dX12_passes_14 rfl (by decide) (Nat.le_refl _) (Nat.le_refl _) ⟨rfl, rfl⟩
  · have h := yb_ifp c1 h
    refine n_aload_n (i := 0) dX12_passes_4 rfl rfl ?_
    obtain ⟨q4, hq4, h⟩ := yb_bind h
    refine p_callVi (As := []) (t_X12_fails hq4) cv_X12_376 (sh_176 _ _) rfl rfl (Nat.le_of_ble_eq_true rfl) dX12_passes_5 (yb_rok (Nat.le_of_ble_eq_true rfl) (by decide)) ⟨rfl, rfl⟩ ⟨Nat.le_refl _, Nat.le_refl _⟩ (fun k5 => ?_)
    cases h
    exact n_iret dX12_passes_8 rfl (yb_okv_b k5) (Nat.le_refl _) (Nat.le_refl _) ⟨rfl, rfl⟩
set_option maxHeartbeats 4000000 in
set_option maxRecDepth 20000 in
theorem t_l_X12_isWord_str_31 {G : yb_G} {X : List (FieldType × Nat)} {x1 : Nat} {s : yb_S} {out : Int32} : ∀ (k0 : Nat) (x2 : Int32), l_X12_isWord_str_31 x1 s k0 x2 = some out → Rn G RX12 cX12_isWord 3 (Option.some .boolean) false (yb_rm 7) (yb_qi X s out) 0 0 31 [some (.ref (yb_ad G 176)), some (.ref (yb_ad G x1)), some (.int x2)] [] (yb_mk s X) := by
  intro k0
  induction k0 with
  | zero => intro x2 h; cases h
  | succ k0 ih =>
    intro x2 h
    have h : f_X12_isWord_str_31 (fun x2 => l_X12_isWord_str_31 x1 s k0 x2) x1 s x2 = some out := h
    have hrc31 := ih
    unfold f_X12_isWord_str_31 at h
    refine n_iload_n (i := 2) dX12_isWord_31 rfl rfl ?_
    refine n_aload_n (i := 1) dX12_isWord_32 rfl rfl ?_
    obtain ⟨v5, hv5, h⟩ := yb_bind h
    refine p_callTi (As := []) (t_slen hv5) ct_X12_365 (yb_sl_some hv5).1 rfl rfl (Nat.le_of_ble_eq_true rfl) dX12_isWord_33 (yb_rok (Nat.le_of_ble_eq_true rfl) (by decide)) ⟨rfl, rfl⟩ ⟨Nat.le_refl _, Nat.le_refl _⟩ (fun k6 => ?_)
    refine n_icmp_ge 66 dX12_isWord_36 (by decide) (fun c7 => ?_) (fun c7 => ?_)
    · have h := yb_ifp c7 h
      refine n_iconst (1 : Int32) dX12_isWord_66 ic_1 ?_
      cases h
      exact n_iret dX12_isWord_67 rfl (by decide) (Nat.le_refl _) (Nat.le_refl _) ⟨rfl, rfl⟩
    · have h := yb_ifn c7 h
      refine n_aload_n (i := 0) dX12_isWord_39 rfl rfl ?_
      refine p_getr fl_X12_119 (sh_176 _ _) rfl (rR_176_43 _ _) dX12_isWord_40 ?_
      refine n_aload_n (i := 0) dX12_isWord_43 rfl rfl ?_
      refine p_geti fl_X12_350 (sh_176 _ _) rfl dX12_isWord_44 ?_
      refine n_iload_n (i := 2) dX12_isWord_47 rfl rfl ?_
      refine n_iadd dX12_isWord_48 ?_
      obtain ⟨v8, hv8, h⟩ := yb_bind h
      refine p_bald hv8 (sh_242 _ _) dX12_isWord_49 ?_
      refine n_aload_n (i := 1) dX12_isWord_50 rfl rfl ?_
      refine n_iload_n (i := 2) dX12_isWord_51 rfl rfl ?_
      obtain ⟨v9, hv9, h⟩ := yb_bind h
      refine p_callTi (As := [.int x2]) (t_schr hv9) ct_X12_369 (yb_sc_some hv9).1 rfl rfl (Nat.le_of_ble_eq_true rfl) dX12_isWord_52 (yb_rok (Nat.le_of_ble_eq_true rfl) (by decide)) ⟨rfl, rfl⟩ ⟨Nat.le_refl _, Nat.le_refl _⟩ (fun k10 => ?_)
      refine n_icmp_eq 60 dX12_isWord_55 (by decide) (fun c11 => ?_) (fun c11 => ?_)
      · have h := yb_ifp c11 h
        refine n_iinc (vs' := [some (.ref (yb_ad G 176)), some (.ref (yb_ad G x1)), some (.int (x2 + (1 : Int32)))]) dX12_isWord_60 rfl (ii_1 _) (Nat.le_of_ble_eq_true rfl) rfl rfl ?_
        refine n_goto 31 dX12_isWord_63 (by decide) ?_
        exact p_jump (hrc31 (x2 + (1 : Int32)) h) (And.intro rfl (And.intro rfl (And.intro rfl trivial)))
      · have h := yb_ifn c11 h
        refine n_iconst (0 : Int32) dX12_isWord_58 ic_0 ?_
        cases h
        exact n_iret dX12_isWord_59 rfl (by decide) (Nat.le_refl _) (Nat.le_refl _) ⟨rfl, rfl⟩
set_option maxHeartbeats 4000000 in
set_option maxRecDepth 20000 in
theorem tl_X12_isWord_str_31 {G : yb_G} {X : List (FieldType × Nat)} {x1 : Nat} {s : yb_S} {out : Int32} {x2 : Int32} (h : l_X12_isWord_str_31 x1 s yb_N x2 = some out) : Rn G RX12 cX12_isWord 3 (Option.some .boolean) false (yb_rm 7) (yb_qi X s out) 0 0 31 [some (.ref (yb_ad G 176)), some (.ref (yb_ad G x1)), some (.int x2)] [] (yb_mk s X) := t_l_X12_isWord_str_31 _ _ h
set_option maxHeartbeats 4000000 in
set_option maxRecDepth 20000 in
theorem t_X12_isWord_str {G : yb_G} {X : List (FieldType × Nat)} {w : Nat} {s : yb_S} {out : Int32} (h : f_X12_isWord_str w s = some out) : Ct G yX12_isWord cX12_isWord 3 (Option.some .boolean) (yb_rm 7) [.ref (yb_ad G 176), .ref (yb_ad G w)] (yb_mk s X) (yb_qi X s out) := by
  refine Ct.of (own := RX12) (ini := false) (vs := [some (.ref (yb_ad G 176)), some (.ref (yb_ad G w)), none]) ⟨rfl, by decide +kernel⟩ (fun h => by cases h) (Nat.le_of_ble_eq_true rfl) rfl ?_
  unfold f_X12_isWord_str at h
  refine n_aload_n (i := 0) dX12_isWord_0 rfl rfl ?_
  refine p_geti fl_X12_353 (sh_176 _ _) rfl dX12_isWord_1 ?_
  refine n_aload_n (i := 0) dX12_isWord_4 rfl rfl ?_
  refine p_geti fl_X12_350 (sh_176 _ _) rfl dX12_isWord_5 ?_
  refine n_isub dX12_isWord_8 ?_
  refine n_aload_n (i := 1) dX12_isWord_9 rfl rfl ?_
  obtain ⟨v1, hv1, h⟩ := yb_bind h
  refine p_callTi (As := []) (t_slen hv1) ct_X12_365 (yb_sl_some hv1).1 rfl rfl (Nat.le_of_ble_eq_true rfl) dX12_isWord_10 (yb_rok (Nat.le_of_ble_eq_true rfl) (by decide)) ⟨rfl, rfl⟩ ⟨Nat.le_refl _, Nat.le_refl _⟩ (fun k2 => ?_)
  refine n_icmp_ne 27 dX12_isWord_13 (by decide) (fun c3 => ?_) (fun c3 => ?_)
  · have h := yb_ifn c3 h
    refine n_iconst (0 : Int32) dX12_isWord_27 ic_0 ?_
    cases h
    exact n_iret dX12_isWord_28 rfl (by decide) (Nat.le_refl _) (Nat.le_refl _) ⟨rfl, rfl⟩
  · have h := yb_ifp c3 h
    refine n_aload_n (i := 0) dX12_isWord_16 rfl rfl ?_
    refine p_geti fl_X12_350 (sh_176 _ _) rfl dX12_isWord_17 ?_
    refine n_aload_n (i := 0) dX12_isWord_20 rfl rfl ?_
    refine p_geti fl_X12_343 (sh_176 _ _) rfl dX12_isWord_21 ?_
    refine n_icmp_ne 29 dX12_isWord_24 (by decide) (fun c4 => ?_) (fun c4 => ?_)
    · have h := yb_ifn c4 h
      refine n_iconst (0 : Int32) dX12_isWord_29 ic_0 ?_
      refine n_istore_n (i := 2) (vs' := [some (.ref (yb_ad G 176)), some (.ref (yb_ad G w)), some (.int (0 : Int32))]) dX12_isWord_30 rfl (Nat.le_of_ble_eq_true rfl) rfl rfl ?_
      exact p_jump (tl_X12_isWord_str_31 h) (And.intro rfl (And.intro rfl (And.intro rfl trivial)))
    · have h := yb_ifp c4 h
      refine n_iconst (0 : Int32) dX12_isWord_27 ic_0 ?_
      cases h
      exact n_iret dX12_isWord_28 rfl (by decide) (Nat.le_refl _) (Nat.le_refl _) ⟨rfl, rfl⟩
set_option maxHeartbeats 4000000 in
set_option maxRecDepth 20000 in
theorem t_X12_puts {G : yb_G} {X : List (FieldType × Nat)} {a1 : Int32} {a2 : Int32} {s : yb_S} {out : (Int32 × yb_S)} (h : f_X12_puts a1 a2 s = some out) : Ct G yX12_puts cX12_puts 3 (Option.some .boolean) (yb_rm 1) [.ref (yb_ad G 176), .int a1, .int a2] (yb_mk s X) (yb_qi X out.2 out.1) := by
  refine Ct.of (own := RX12) (ini := false) (vs := [some (.ref (yb_ad G 176)), some (.int a1), some (.int a2)]) ⟨rfl, by decide +kernel⟩ (fun h => by cases h) (Nat.le_of_ble_eq_true rfl) rfl ?_
  unfold f_X12_puts at h
  refine n_aload_n (i := 0) dX12_puts_0 rfl rfl ?_
  refine p_getr fl_X12_125 (sh_176 _ _) rfl (rR_176_50 _ _) dX12_puts_1 ?_
  refine n_bipush (10 : Int32) dX12_puts_4 bp_10 ?_
  obtain ⟨r1, hr1, h⟩ := yb_bind h
  refine p_aald hr1 (sh_243 _ _) (by decide) rfl (rF_243 _ _) dX12_puts_6 ?_
  refine n_aload_n (i := 0) dX12_puts_7 rfl rfl ?_
  refine p_geti fl_X12_383 (sh_176 _ _) rfl dX12_puts_8 ?_
  obtain ⟨r2, hr2, h⟩ := yb_bind h
  refine p_aald hr2 (shF_243 hr1 _ _) (by decide) rfl (rG_243 hr1 _ _) dX12_puts_11 ?_
  refine n_iconst (2 : Int32) dX12_puts_12 ic_2 ?_
  refine n_aload_n (i := 0) dX12_puts_13 rfl rfl ?_
  refine p_geti fl_X12_386 (sh_176 _ _) rfl dX12_puts_14 ?_
  refine n_imul dX12_puts_17 ?_
  refine n_iload_n (i := 1) dX12_puts_18 rfl rfl ?_
  obtain ⟨s3, hs3, h⟩ := yb_bind h
  refine p_iast hs3 (shG_243 hr1 hr2 _ _) dX12_puts_19 ?_
  refine n_aload_n (i := 0) dX12_puts_20 rfl rfl ?_
  refine p_getr fl_X12_125 (sh_176 _ _) rfl (rR_176_50 _ _) dX12_puts_21 ?_
  refine n_bipush (10 : Int32) dX12_puts_24 bp_10 ?_
  obtain ⟨r4, hr4, h⟩ := yb_bind h
  refine p_aald hr4 (sh_243 _ _) (by decide) rfl (rF_243 _ _) dX12_puts_26 ?_
  refine n_aload_n (i := 0) dX12_puts_27 rfl rfl ?_
  refine p_geti fl_X12_383 (sh_176 _ _) rfl dX12_puts_28 ?_
  obtain ⟨r5, hr5, h⟩ := yb_bind h
  refine p_aald hr5 (shF_243 hr4 _ _) (by decide) rfl (rG_243 hr4 _ _) dX12_puts_31 ?_
  refine n_iconst (2 : Int32) dX12_puts_32 ic_2 ?_
  refine n_aload_n (i := 0) dX12_puts_33 rfl rfl ?_
  refine p_geti fl_X12_386 (sh_176 _ _) rfl dX12_puts_34 ?_
  refine n_imul dX12_puts_37 ?_
  refine n_iconst (1 : Int32) dX12_puts_38 ic_1 ?_
  refine n_iadd dX12_puts_39 ?_
  refine n_iload_n (i := 2) dX12_puts_40 rfl rfl ?_
  obtain ⟨s6, hs6, h⟩ := yb_bind h
  refine p_iast hs6 (shG_243 hr4 hr5 _ _) dX12_puts_41 ?_
  refine n_aload_n (i := 0) dX12_puts_42 rfl rfl ?_
  refine n_dup dX12_puts_43 rfl ?_
  refine p_geti fl_X12_386 (sh_176 _ _) rfl dX12_puts_44 ?_
  refine n_iconst (1 : Int32) dX12_puts_47 ic_1 ?_
  refine n_iadd dX12_puts_48 ?_
  obtain ⟨s7, hs7, h⟩ := yb_bind h
  refine p_puti hs7 fp_X12_386 (sh_176 _ _) rfl rfl rfl dX12_puts_49 ?_
  refine n_iconst (1 : Int32) dX12_puts_52 ic_1 ?_
  cases h
  exact n_iret dX12_puts_53 rfl (by decide) (Nat.le_refl _) (Nat.le_refl _) ⟨rfl, rfl⟩
set_option maxHeartbeats 4000000 in
set_option maxRecDepth 20000 in
theorem t_X12_isSign {G : yb_G} {X : List (FieldType × Nat)} {a1 : Int32} {s : yb_S} {out : Int32} (h : f_X12_isSign a1 s = some out) : Ct G yX12_isSign cX12_isSign 2 (Option.some .boolean) (yb_rm 1) [.ref (yb_ad G 176), .int a1] (yb_mk s X) (yb_qi X s out) := by
  refine Ct.of (own := RX12) (ini := false) (vs := [some (.ref (yb_ad G 176)), some (.int a1)]) ⟨rfl, by decide +kernel⟩ (fun h => by cases h) (Nat.le_of_ble_eq_true rfl) rfl ?_
  unfold f_X12_isSign at h
  refine n_aload_n (i := 0) dX12_isSign_0 rfl rfl ?_
  refine p_geti fl_X12_350 (sh_176 _ _) rfl dX12_isSign_1 ?_
  refine n_aload_n (i := 0) dX12_isSign_4 rfl rfl ?_
  refine p_geti fl_X12_343 (sh_176 _ _) rfl dX12_isSign_5 ?_
  refine n_icmp_ge 28 dX12_isSign_8 (by decide) (fun c1 => ?_) (fun c1 => ?_)
  · have h := yb_ifp c1 h
    refine n_iconst (0 : Int32) dX12_isSign_28 ic_0 ?_
    cases h
    exact n_iret dX12_isSign_29 rfl (by decide) (Nat.le_refl _) (Nat.le_refl _) ⟨rfl, rfl⟩
  · have h := yb_ifn c1 h
    refine n_aload_n (i := 0) dX12_isSign_11 rfl rfl ?_
    refine p_getr fl_X12_119 (sh_176 _ _) rfl (rR_176_43 _ _) dX12_isSign_12 ?_
    refine n_aload_n (i := 0) dX12_isSign_15 rfl rfl ?_
    refine p_geti fl_X12_350 (sh_176 _ _) rfl dX12_isSign_16 ?_
    obtain ⟨v2, hv2, h⟩ := yb_bind h
    refine p_bald hv2 (sh_242 _ _) dX12_isSign_19 ?_
    refine n_iload_n (i := 1) dX12_isSign_20 rfl rfl ?_
    refine n_icmp_ne 28 dX12_isSign_21 (by decide) (fun c3 => ?_) (fun c3 => ?_)
    · have h := yb_ifn c3 h
      refine n_iconst (0 : Int32) dX12_isSign_28 ic_0 ?_
      cases h
      exact n_iret dX12_isSign_29 rfl (by decide) (Nat.le_refl _) (Nat.le_refl _) ⟨rfl, rfl⟩
    · have h := yb_ifp c3 h
      refine n_iconst (1 : Int32) dX12_isSign_24 ic_1 ?_
      refine n_goto 29 dX12_isSign_25 (by decide) ?_
      cases h
      exact n_iret dX12_isSign_29 rfl (by decide) (Nat.le_refl _) (Nat.le_refl _) ⟨rfl, rfl⟩
set_option maxHeartbeats 4000000 in
set_option maxRecDepth 20000 in
theorem tj_X12_isNumber_80 {G : yb_G} {X : List (FieldType × Nat)} {rc38 : (Int32 → yb_S → Option (Int32 × yb_S))} {x1 : Int32} {y0 : Int32} {s : yb_S} {out : (Int32 × yb_S)} (hrc38 : ∀ (x1' : Int32) (s' : yb_S), rc38 x1' s' = some out → Rn G RX12 cX12_isNumber 2 (Option.some .boolean) false (yb_rm 2) (yb_qi X out.2 out.1) 0 0 38 [some (.ref (yb_ad G 176)), some (.int x1')] [] (yb_mk s' X)) (h : j_X12_isNumber_80 rc38 x1 y0 s = some out) : Rn G RX12 cX12_isNumber 2 (Option.some .boolean) false (yb_rm 2) (yb_qi X out.2 out.1) 0 0 80 [some (.ref (yb_ad G 176)), some (.int x1)] [.int y0, .ref (yb_ad G 176)] (yb_mk s X) := by
  unfold j_X12_isNumber_80 at h
  obtain ⟨s10, hs10, h⟩ := yb_bind h
  refine p_puti hs10 fp_X12_389 (sh_176 _ _) rfl rfl rfl dX12_isNumber_80 ?_
  refine n_iinc (vs' := [some (.ref (yb_ad G 176)), some (.int (x1 + (1 : Int32)))]) dX12_isNumber_83 rfl (ii_1 _) (Nat.le_of_ble_eq_true rfl) rfl rfl ?_
  refine n_goto 38 dX12_isNumber_86 (by decide) ?_
  exact p_jump (hrc38 (x1 + (1 : Int32)) s10 h) (And.intro rfl (And.intro rfl trivial))
set_option maxHeartbeats 4000000 in
set_option maxRecDepth 20000 in
theorem t_l_X12_isNumber_38 {G : yb_G} {X : List (FieldType × Nat)} {out : (Int32 × yb_S)} : ∀ (k0 : Nat) (x1 : Int32) (s : yb_S), l_X12_isNumber_38 k0 x1 s = some out → Rn G RX12 cX12_isNumber 2 (Option.some .boolean) false (yb_rm 2) (yb_qi X out.2 out.1) 0 0 38 [some (.ref (yb_ad G 176)), some (.int x1)] [] (yb_mk s X) := by
  intro k0
  induction k0 with
  | zero => intro x1 s h; cases h
  | succ k0 ih =>
    intro x1 s h
    have h : f_X12_isNumber_38 (fun x1 s => l_X12_isNumber_38 k0 x1 s) x1 s = some out := h
    have hrc38 := ih
    unfold f_X12_isNumber_38 at h
    refine n_iload_n (i := 1) dX12_isNumber_38 rfl rfl ?_
    refine n_aload_n (i := 0) dX12_isNumber_39 rfl rfl ?_
    refine p_geti fl_X12_353 (sh_176 _ _) rfl dX12_isNumber_40 ?_
    refine n_icmp_ge 89 dX12_isNumber_43 (by decide) (fun c7 => ?_) (fun c7 => ?_)
    · have h := yb_ifp c7 h
      refine n_iconst (1 : Int32) dX12_isNumber_89 ic_1 ?_
      cases h
      exact n_iret dX12_isNumber_90 rfl (by decide) (Nat.le_refl _) (Nat.le_refl _) ⟨rfl, rfl⟩
    · have h := yb_ifn c7 h
      refine n_aload_n (i := 0) dX12_isNumber_46 rfl rfl ?_
      refine n_aload_n (i := 0) dX12_isNumber_47 rfl rfl ?_
      refine p_geti fl_X12_389 (sh_176 _ _) rfl dX12_isNumber_48 ?_
      refine n_ldcw (99999 : Int32) k_X12_392 dX12_isNumber_51 ?_
      refine n_icmp_le 63 dX12_isNumber_54 (by decide) (fun c8 => ?_) (fun c8 => ?_)
      · have h := yb_ifp c8 h
        refine n_bipush (10 : Int32) dX12_isNumber_63 bp_10 ?_
        refine n_aload_n (i := 0) dX12_isNumber_65 rfl rfl ?_
        refine p_geti fl_X12_389 (sh_176 _ _) rfl dX12_isNumber_66 ?_
        refine n_imul dX12_isNumber_69 ?_
        refine n_aload_n (i := 0) dX12_isNumber_70 rfl rfl ?_
        refine p_getr fl_X12_119 (sh_176 _ _) rfl (rR_176_43 _ _) dX12_isNumber_71 ?_
        refine n_iload_n (i := 1) dX12_isNumber_74 rfl rfl ?_
        obtain ⟨v9, hv9, h⟩ := yb_bind h
        refine p_bald hv9 (sh_242 _ _) dX12_isNumber_75 ?_
        refine n_iadd dX12_isNumber_76 ?_
        refine n_bipush (48 : Int32) dX12_isNumber_77 bp_48 ?_
        refine n_isub dX12_isNumber_79 ?_
        exact p_jump (tj_X12_isNumber_80 hrc38 h) (And.intro rfl (And.intro rfl trivial))
      · have h := yb_ifn c8 h
        refine n_ldcw (999999 : Int32) k_X12_393 dX12_isNumber_57 ?_
        refine n_goto 80 dX12_isNumber_60 (by decide) ?_
        exact p_jump (tj_X12_isNumber_80 hrc38 h) (And.intro rfl (And.intro rfl trivial))
set_option maxHeartbeats 4000000 in
set_option maxRecDepth 20000 in
theorem tl_X12_isNumber_38 {G : yb_G} {X : List (FieldType × Nat)} {out : (Int32 × yb_S)} {x1 : Int32} {s : yb_S} (h : l_X12_isNumber_38 yb_N x1 s = some out) : Rn G RX12 cX12_isNumber 2 (Option.some .boolean) false (yb_rm 2) (yb_qi X out.2 out.1) 0 0 38 [some (.ref (yb_ad G 176)), some (.int x1)] [] (yb_mk s X) := t_l_X12_isNumber_38 _ _ _ h
set_option maxHeartbeats 4000000 in
set_option maxRecDepth 20000 in
theorem t_X12_isNumber {G : yb_G} {X : List (FieldType × Nat)} {s : yb_S} {out : (Int32 × yb_S)} (h : f_X12_isNumber s = some out) : Ct G yX12_isNumber cX12_isNumber 2 (Option.some .boolean) (yb_rm 2) [.ref (yb_ad G 176)] (yb_mk s X) (yb_qi X out.2 out.1) := by
  refine Ct.of (own := RX12) (ini := false) (vs := [some (.ref (yb_ad G 176)), none]) ⟨rfl, by decide +kernel⟩ (fun h => by cases h) (Nat.le_of_ble_eq_true rfl) rfl ?_
  unfold f_X12_isNumber at h
  refine n_aload_n (i := 0) dX12_isNumber_0 rfl rfl ?_
  refine p_geti fl_X12_350 (sh_176 _ _) rfl dX12_isNumber_1 ?_
  refine n_aload_n (i := 0) dX12_isNumber_4 rfl rfl ?_
  refine p_geti fl_X12_343 (sh_176 _ _) rfl dX12_isNumber_5 ?_
  refine n_icmp_eq 26 dX12_isNumber_8 (by decide) (fun c1 => ?_) (fun c1 => ?_)
  · have h := yb_ifp c1 h
    refine n_iconst (0 : Int32) dX12_isNumber_26 ic_0 ?_
    cases h
    exact n_iret dX12_isNumber_27 rfl (by decide) (Nat.le_refl _) (Nat.le_refl _) ⟨rfl, rfl⟩
  · have h := yb_ifn c1 h
    refine n_aload_n (i := 0) dX12_isNumber_11 rfl rfl ?_
    refine p_getr fl_X12_119 (sh_176 _ _) rfl (rR_176_43 _ _) dX12_isNumber_12 ?_
    refine n_aload_n (i := 0) dX12_isNumber_15 rfl rfl ?_
    refine p_geti fl_X12_350 (sh_176 _ _) rfl dX12_isNumber_16 ?_
    obtain ⟨v2, hv2, h⟩ := yb_bind h
    refine p_bald hv2 (sh_242 _ _) dX12_isNumber_19 ?_
    obtain ⟨q3, hq3, h⟩ := yb_bind h
    refine p_callSi (As := [.int v2]) (t_X12_isDigit hq3) cs_X12_359 rfl rfl (Nat.le_of_ble_eq_true rfl) dX12_isNumber_20 (yb_rok (Nat.le_of_ble_eq_true rfl) (by decide)) ⟨rfl, rfl⟩ ⟨Nat.le_refl _, Nat.le_refl _⟩ (fun k4 => ?_)
    refine n_if_ne 28 dX12_isNumber_23 (by decide) (fun c5 => ?_) (fun c5 => ?_)
    · have h := yb_ifn c5 h
      refine n_aload_n (i := 0) dX12_isNumber_28 rfl rfl ?_
      refine n_iconst (0 : Int32) dX12_isNumber_29 ic_0 ?_
      obtain ⟨s6, hs6, h⟩ := yb_bind h
      refine p_puti hs6 fp_X12_389 (sh_176 _ _) rfl rfl rfl dX12_isNumber_30 ?_
      refine n_aload_n (i := 0) dX12_isNumber_33 rfl rfl ?_
      refine p_geti fl_X12_350 (sh_176 _ _) rfl dX12_isNumber_34 ?_
      refine n_istore_n (i := 1) (vs' := [some (.ref (yb_ad G 176)), some (.int (s6.1 176 45))]) dX12_isNumber_37 rfl (Nat.le_of_ble_eq_true rfl) rfl rfl ?_
      exact p_jump (tl_X12_isNumber_38 h) (And.intro rfl (And.intro rfl trivial))
    · have h := yb_ifp c5 h
      refine n_iconst (0 : Int32) dX12_isNumber_26 ic_0 ?_
      cases h
      exact n_iret dX12_isNumber_27 rfl (by decide) (Nat.le_refl _) (Nat.le_refl _) ⟨rfl, rfl⟩
set_option maxHeartbeats 4000000 in
set_option maxRecDepth 20000 in
theorem t_l_X12_factor_105 {G : yb_G} {X : List (FieldType × Nat)} {r_X12_factor : (Int32 → yb_S → Option (Int32 × yb_S))} {r_X12_product : (Int32 → yb_S → Option (Int32 × yb_S))} {r_X12_sum : (Int32 → yb_S → Option (Int32 × yb_S))} {n : Nat} {s : yb_S} {out : (Int32 × yb_S)} (H_X12_factor : ∀ (a1 : Int32) (s : yb_S) (out : (Int32 × yb_S)), r_X12_factor a1 s = some out → Ct G yX12_factor cX12_factor 3 (Option.some .boolean) (yb_rm (8 + n)) [.ref (yb_ad G 176), .int a1] (yb_mk s X) (yb_qi X out.2 out.1)) (H_X12_product : ∀ (a1 : Int32) (s : yb_S) (out : (Int32 × yb_S)), r_X12_product a1 s = some out → Ct G yX12_product cX12_product 3 (Option.some .boolean) (yb_rm (8 + n)) [.ref (yb_ad G 176), .int a1] (yb_mk s X) (yb_qi X out.2 out.1)) (H_X12_sum : ∀ (a1 : Int32) (s : yb_S) (out : (Int32 × yb_S)), r_X12_sum a1 s = some out → Ct G yX12_sum cX12_sum 3 (Option.some .boolean) (yb_rm (8 + n)) [.ref (yb_ad G 176), .int a1] (yb_mk s X) (yb_qi X out.2 out.1)) : ∀ (k0 : Nat) (x2 : Int32), l_X12_factor_105 r_X12_factor r_X12_product r_X12_sum s k0 x2 = some out → Rn G RX12 cX12_factor 3 (Option.some .boolean) false (yb_rm (9 + n)) (yb_qi X out.2 out.1) 0 0 105 [some (.ref (yb_ad G 176)), none, some (.int x2)] [] (yb_mk s X) := by
  intro k0
  induction k0 with
  | zero => intro x2 h; cases h
  | succ k0 ih =>
    intro x2 h
    have h : f_X12_factor_105 r_X12_factor r_X12_product r_X12_sum (fun x2 => l_X12_factor_105 r_X12_factor r_X12_product r_X12_sum s k0 x2) s x2 = some out := h
    have hrc105 := ih
    unfold f_X12_factor_105 at h
    refine n_iload_n (i := 2) dX12_factor_105 rfl rfl ?_
    refine n_bipush (18 : Int32) dX12_factor_106 bp_18 ?_
    refine n_icmp_ge 154 dX12_factor_108 (by decide) (fun c7 => ?_) (fun c7 => ?_)
    · have h := yb_ifp c7 h
      refine n_aload_n (i := 0) dX12_factor_154 rfl rfl ?_
      obtain ⟨q8, hq8, h⟩ := yb_bind h
      refine p_callVi (As := []) (t_X12_fails hq8) cv_X12_376 (sh_176 _ _) rfl rfl (Nat.le_of_ble_eq_true rfl) dX12_factor_155 (yb_rok (by omega) (by decide)) ⟨rfl, rfl⟩ ⟨Nat.le_refl _, Nat.le_refl _⟩ (fun k9 => ?_)
      cases h
      exact n_iret dX12_factor_158 rfl (yb_okv_b k9) (Nat.le_refl _) (Nat.le_refl _) ⟨rfl, rfl⟩
    · have h := yb_ifn c7 h
      refine n_aload_n (i := 0) dX12_factor_111 rfl rfl ?_
      refine n_aload_n (i := 0) dX12_factor_112 rfl rfl ?_
      refine p_getr fl_X12_181 (sh_176 _ _) rfl (rR_176_57 _ _) dX12_factor_113 ?_
      refine n_iload_n (i := 2) dX12_factor_116 rfl rfl ?_
      obtain ⟨r10, hr10, h⟩ := yb_bind h
      refine p_aald hr10 (sh_336 _ _) (by decide) rfl (rF_336 _ _) dX12_factor_117 ?_
      obtain ⟨q11, hq11, h⟩ := yb_bind h
      refine p_callVi (As := [.ref (yb_ad G r10)]) (t_X12_isWord_str hq11) cv_X12_409 (sh_176 _ _) rfl rfl (Nat.le_of_ble_eq_true rfl) dX12_factor_118 (yb_rok (by omega) (by decide)) ⟨rfl, rfl⟩ ⟨Nat.le_refl _, Nat.le_refl _⟩ (fun k12 => ?_)
      refine n_if_eq 148 dX12_factor_121 (by decide) (fun c13 => ?_) (fun c13 => ?_)
      · have h := yb_ifp c13 h
        refine n_iinc (vs' := [some (.ref (yb_ad G 176)), none, some (.int (x2 + (1 : Int32)))]) dX12_factor_148 rfl (ii_1 _) (Nat.le_of_ble_eq_true rfl) rfl rfl ?_
        refine n_goto 105 dX12_factor_151 (by decide) ?_
        exact p_jump (hrc105 (x2 + (1 : Int32)) h) (And.intro rfl (And.intro rfl trivial))
      · have h := yb_ifn c13 h
        refine n_aload_n (i := 0) dX12_factor_124 rfl rfl ?_
        refine n_iconst (1 : Int32) dX12_factor_125 ic_1 ?_
        obtain ⟨q14, hq14, h⟩ := yb_bind h
        refine p_callVi (As := [.int (1 : Int32)]) (t_X12_passes hq14) cv_X12_397 (sh_176 _ _) rfl rfl (Nat.le_of_ble_eq_true rfl) dX12_factor_126 (yb_rok (by omega) (by decide)) ⟨rfl, rfl⟩ ⟨Nat.le_refl _, Nat.le_refl _⟩ (fun k15 => ?_)
        refine n_if_eq 146 dX12_factor_129 (by decide) (fun c16 => ?_) (fun c16 => ?_)
        · have h := yb_ifp c16 h
          refine n_iconst (0 : Int32) dX12_factor_146 ic_0 ?_
          cases h
          exact n_iret dX12_factor_147 rfl (by decide) (Nat.le_refl _) (Nat.le_refl _) ⟨rfl, rfl⟩
        · have h := yb_ifn c16 h
          refine n_aload_n (i := 0) dX12_factor_132 rfl rfl ?_
          refine n_bipush (118 : Int32) dX12_factor_133 bp_118 ?_
          refine n_iload_n (i := 2) dX12_factor_135 rfl rfl ?_
          obtain ⟨q17, hq17, h⟩ := yb_bind h
          refine p_callVi (As := [.int (118 : Int32), .int x2]) (t_X12_puts hq17) cv_X12_406 (sh_176 _ _) rfl rfl (Nat.le_of_ble_eq_true rfl) dX12_factor_136 (yb_rok (by omega) (by decide)) ⟨rfl, rfl⟩ ⟨Nat.le_refl _, Nat.le_refl _⟩ (fun k18 => ?_)
          refine n_if_eq 146 dX12_factor_139 (by decide) (fun c19 => ?_) (fun c19 => ?_)
          · have h := yb_ifp c19 h
            refine n_iconst (0 : Int32) dX12_factor_146 ic_0 ?_
            cases h
            exact n_iret dX12_factor_147 rfl (by decide) (Nat.le_refl _) (Nat.le_refl _) ⟨rfl, rfl⟩
          · have h := yb_ifn c19 h
            refine n_iconst (1 : Int32) dX12_factor_142 ic_1 ?_
            refine n_goto 147 dX12_factor_143 (by decide) ?_
            cases h
            exact n_iret dX12_factor_147 rfl (by decide) (Nat.le_refl _) (Nat.le_refl _) ⟨rfl, rfl⟩
set_option maxHeartbeats 4000000 in
set_option maxRecDepth 20000 in
theorem tl_X12_factor_105 {G : yb_G} {X : List (FieldType × Nat)} {r_X12_factor : (Int32 → yb_S → Option (Int32 × yb_S))} {r_X12_product : (Int32 → yb_S → Option (Int32 × yb_S))} {r_X12_sum : (Int32 → yb_S → Option (Int32 × yb_S))} {n : Nat} {s : yb_S} {out : (Int32 × yb_S)} (H_X12_factor : ∀ (a1 : Int32) (s : yb_S) (out : (Int32 × yb_S)), r_X12_factor a1 s = some out → Ct G yX12_factor cX12_factor 3 (Option.some .boolean) (yb_rm (8 + n)) [.ref (yb_ad G 176), .int a1] (yb_mk s X) (yb_qi X out.2 out.1)) (H_X12_product : ∀ (a1 : Int32) (s : yb_S) (out : (Int32 × yb_S)), r_X12_product a1 s = some out → Ct G yX12_product cX12_product 3 (Option.some .boolean) (yb_rm (8 + n)) [.ref (yb_ad G 176), .int a1] (yb_mk s X) (yb_qi X out.2 out.1)) (H_X12_sum : ∀ (a1 : Int32) (s : yb_S) (out : (Int32 × yb_S)), r_X12_sum a1 s = some out → Ct G yX12_sum cX12_sum 3 (Option.some .boolean) (yb_rm (8 + n)) [.ref (yb_ad G 176), .int a1] (yb_mk s X) (yb_qi X out.2 out.1)) {x2 : Int32} (h : l_X12_factor_105 r_X12_factor r_X12_product r_X12_sum s yb_N x2 = some out) : Rn G RX12 cX12_factor 3 (Option.some .boolean) false (yb_rm (9 + n)) (yb_qi X out.2 out.1) 0 0 105 [some (.ref (yb_ad G 176)), none, some (.int x2)] [] (yb_mk s X) := t_l_X12_factor_105 H_X12_factor H_X12_product H_X12_sum _ _ h
set_option maxHeartbeats 4000000 in
set_option maxRecDepth 20000 in
theorem tj_X12_factor_81 {G : yb_G} {X : List (FieldType × Nat)} {r_X12_factor : (Int32 → yb_S → Option (Int32 × yb_S))} {r_X12_product : (Int32 → yb_S → Option (Int32 × yb_S))} {r_X12_sum : (Int32 → yb_S → Option (Int32 × yb_S))} {n : Nat} {x2 : Int32} {y0 : Int32} {s : yb_S} {out : (Int32 × yb_S)} (H_X12_factor : ∀ (a1 : Int32) (s : yb_S) (out : (Int32 × yb_S)), r_X12_factor a1 s = some out → Ct G yX12_factor cX12_factor 3 (Option.some .boolean) (yb_rm (8 + n)) [.ref (yb_ad G 176), .int a1] (yb_mk s X) (yb_qi X out.2 out.1)) (H_X12_product : ∀ (a1 : Int32) (s : yb_S) (out : (Int32 × yb_S)), r_X12_product a1 s = some out → Ct G yX12_product cX12_product 3 (Option.some .boolean) (yb_rm (8 + n)) [.ref (yb_ad G 176), .int a1] (yb_mk s X) (yb_qi X out.2 out.1)) (H_X12_sum : ∀ (a1 : Int32) (s : yb_S) (out : (Int32 × yb_S)), r_X12_sum a1 s = some out → Ct G yX12_sum cX12_sum 3 (Option.some .boolean) (yb_rm (8 + n)) [.ref (yb_ad G 176), .int a1] (yb_mk s X) (yb_qi X out.2 out.1)) (h : j_X12_factor_81 r_X12_factor r_X12_product r_X12_sum x2 y0 s = some out) : Rn G RX12 cX12_factor 3 (Option.some .boolean) false (yb_rm (9 + n)) (yb_qi X out.2 out.1) 0 0 81 [some (.ref (yb_ad G 176)), none, some (.int x2)] [.int y0, .ref (yb_ad G 176)] (yb_mk s X) := by
  unfold j_X12_factor_81 at h
  obtain ⟨q21, hq21, h⟩ := yb_bind h
  refine p_callVi (As := [.int y0]) (t_X12_passes hq21) cv_X12_397 (sh_176 _ _) rfl rfl (Nat.le_of_ble_eq_true rfl) dX12_factor_81 (yb_rok (by omega) (by decide)) ⟨rfl, rfl⟩ ⟨Nat.le_refl _, Nat.le_refl _⟩ (fun k22 => ?_)
  refine n_if_eq 101 dX12_factor_84 (by decide) (fun c23 => ?_) (fun c23 => ?_)
  · have h := yb_ifp c23 h
    refine n_iconst (0 : Int32) dX12_factor_101 ic_0 ?_
    cases h
    exact n_iret dX12_factor_102 rfl (by decide) (Nat.le_refl _) (Nat.le_refl _) ⟨rfl, rfl⟩
  · have h := yb_ifn c23 h
    refine n_aload_n (i := 0) dX12_factor_87 rfl rfl ?_
    refine n_bipush (110 : Int32) dX12_factor_88 bp_110 ?_
    refine n_iload_n (i := 2) dX12_factor_90 rfl rfl ?_
    obtain ⟨q24, hq24, h⟩ := yb_bind h
    refine p_callVi (As := [.int (110 : Int32), .int x2]) (t_X12_puts hq24) cv_X12_406 (sh_176 _ _) rfl rfl (Nat.le_of_ble_eq_true rfl) dX12_factor_91 (yb_rok (by omega) (by decide)) ⟨rfl, rfl⟩ ⟨Nat.le_refl _, Nat.le_refl _⟩ (fun k25 => ?_)
    refine n_if_eq 101 dX12_factor_94 (by decide) (fun c26 => ?_) (fun c26 => ?_)
    · have h := yb_ifp c26 h
      refine n_iconst (0 : Int32) dX12_factor_101 ic_0 ?_
      cases h
      exact n_iret dX12_factor_102 rfl (by decide) (Nat.le_refl _) (Nat.le_refl _) ⟨rfl, rfl⟩
    · have h := yb_ifn c26 h
      refine n_iconst (1 : Int32) dX12_factor_97 ic_1 ?_
      refine n_goto 102 dX12_factor_98 (by decide) ?_
      cases h
      exact n_iret dX12_factor_102 rfl (by decide) (Nat.le_refl _) (Nat.le_refl _) ⟨rfl, rfl⟩
set_option maxHeartbeats 4000000 in
set_option maxRecDepth 20000 in
theorem tj_X12_factor_21 {G : yb_G} {X : List (FieldType × Nat)} {r_X12_factor : (Int32 → yb_S → Option (Int32 × yb_S))} {r_X12_product : (Int32 → yb_S → Option (Int32 × yb_S))} {r_X12_sum : (Int32 → yb_S → Option (Int32 × yb_S))} {n : Nat} {x1 : Int32} {y0 : Int32} {s : yb_S} {out : (Int32 × yb_S)} (H_X12_factor : ∀ (a1 : Int32) (s : yb_S) (out : (Int32 × yb_S)), r_X12_factor a1 s = some out → Ct G yX12_factor cX12_factor 3 (Option.some .boolean) (yb_rm (8 + n)) [.ref (yb_ad G 176), .int a1] (yb_mk s X) (yb_qi X out.2 out.1)) (H_X12_product : ∀ (a1 : Int32) (s : yb_S) (out : (Int32 × yb_S)), r_X12_product a1 s = some out → Ct G yX12_product cX12_product 3 (Option.some .boolean) (yb_rm (8 + n)) [.ref (yb_ad G 176), .int a1] (yb_mk s X) (yb_qi X out.2 out.1)) (H_X12_sum : ∀ (a1 : Int32) (s : yb_S) (out : (Int32 × yb_S)), r_X12_sum a1 s = some out → Ct G yX12_sum cX12_sum 3 (Option.some .boolean) (yb_rm (8 + n)) [.ref (yb_ad G 176), .int a1] (yb_mk s X) (yb_qi X out.2 out.1)) (h : j_X12_factor_21 r_X12_factor r_X12_product r_X12_sum x1 y0 s = some out) : Rn G RX12 cX12_factor 3 (Option.some .boolean) false (yb_rm (9 + n)) (yb_qi X out.2 out.1) 0 0 21 [some (.ref (yb_ad G 176)), some (.int x1), none] [.int y0, .ref (yb_ad G 176)] (yb_mk s X) := by
  unfold j_X12_factor_21 at h
  obtain ⟨q28, hq28, h⟩ := yb_bind h
  refine p_callVi (As := [.int y0]) (t_X12_passes hq28) cv_X12_397 (sh_176 _ _) rfl rfl (Nat.le_of_ble_eq_true rfl) dX12_factor_21 (yb_rok (by omega) (by decide)) ⟨rfl, rfl⟩ ⟨Nat.le_refl _, Nat.le_refl _⟩ (fun k29 => ?_)
  refine n_if_eq 54 dX12_factor_24 (by decide) (fun c30 => ?_) (fun c30 => ?_)
  · have h := yb_ifp c30 h
    refine n_iconst (0 : Int32) dX12_factor_54 ic_0 ?_
    cases h
    exact n_iret dX12_factor_55 rfl (by decide) (Nat.le_refl _) (Nat.le_refl _) ⟨rfl, rfl⟩
  · have h := yb_ifn c30 h
    refine n_aload_n (i := 0) dX12_factor_27 rfl rfl ?_
    refine n_iload_n (i := 1) dX12_factor_28 rfl rfl ?_
    refine n_iconst (1 : Int32) dX12_factor_29 ic_1 ?_
    refine n_iadd dX12_factor_30 ?_
    obtain ⟨q31, hq31, h⟩ := yb_bind h
    refine p_callVi (As := [.int (x1 + (1 : Int32))]) (H_X12_sum (x1 + (1 : Int32)) _ _ hq31) cv_X12_401 (sh_176 _ _) rfl rfl (Nat.le_of_ble_eq_true rfl) dX12_factor_31 (yb_rok (by omega) (by decide)) ⟨rfl, rfl⟩ ⟨Nat.le_refl _, Nat.le_refl _⟩ (fun k32 => ?_)
    refine n_if_eq 54 dX12_factor_34 (by decide) (fun c33 => ?_) (fun c33 => ?_)
    · have h := yb_ifp c33 h
      refine n_iconst (0 : Int32) dX12_factor_54 ic_0 ?_
      cases h
      exact n_iret dX12_factor_55 rfl (by decide) (Nat.le_refl _) (Nat.le_refl _) ⟨rfl, rfl⟩
    · have h := yb_ifn c33 h
      refine n_aload_n (i := 0) dX12_factor_37 rfl rfl ?_
      refine n_aload_n (i := 0) dX12_factor_38 rfl rfl ?_
      refine n_bipush (41 : Int32) dX12_factor_39 bp_41 ?_
      obtain ⟨q34, hq34, h⟩ := yb_bind h
      refine p_callVi (As := [.int (41 : Int32)]) (t_X12_isSign hq34) cv_X12_394 (sh_176 _ _) rfl rfl (Nat.le_of_ble_eq_true rfl) dX12_factor_41 (yb_rok (by omega) (by decide)) ⟨rfl, rfl⟩ ⟨Nat.le_refl _, Nat.le_refl _⟩ (fun k35 => ?_)
      obtain ⟨q36, hq36, h⟩ := yb_bind h
      refine p_callVi (As := [.int q34]) (t_X12_passes hq36) cv_X12_397 (sh_176 _ _) rfl rfl (Nat.le_of_ble_eq_true rfl) dX12_factor_44 (yb_rok (by omega) (by decide)) ⟨rfl, rfl⟩ ⟨Nat.le_refl _, Nat.le_refl _⟩ (fun k37 => ?_)
      refine n_if_eq 54 dX12_factor_47 (by decide) (fun c38 => ?_) (fun c38 => ?_)
      · have h := yb_ifp c38 h
        refine n_iconst (0 : Int32) dX12_factor_54 ic_0 ?_
        cases h
        exact n_iret dX12_factor_55 rfl (by decide) (Nat.le_refl _) (Nat.le_refl _) ⟨rfl, rfl⟩
      · have h := yb_ifn c38 h
        refine n_iconst (1 : Int32) dX12_factor_50 ic_1 ?_
        refine n_goto 55 dX12_factor_51 (by decide) ?_
        cases h
        exact n_iret dX12_factor_55 rfl (by decide) (Nat.le_refl _) (Nat.le_refl _) ⟨rfl, rfl⟩
set_option maxHeartbeats 4000000 in
set_option maxRecDepth 20000 in
theorem t_X12_factor {G : yb_G} {X : List (FieldType × Nat)} {r_X12_factor : (Int32 → yb_S → Option (Int32 × yb_S))} {r_X12_product : (Int32 → yb_S → Option (Int32 × yb_S))} {r_X12_sum : (Int32 → yb_S → Option (Int32 × yb_S))} {n : Nat} {a1 : Int32} {s : yb_S} {out : (Int32 × yb_S)} (H_X12_factor : ∀ (a1 : Int32) (s : yb_S) (out : (Int32 × yb_S)), r_X12_factor a1 s = some out → Ct G yX12_factor cX12_factor 3 (Option.some .boolean) (yb_rm (8 + n)) [.ref (yb_ad G 176), .int a1] (yb_mk s X) (yb_qi X out.2 out.1)) (H_X12_product : ∀ (a1 : Int32) (s : yb_S) (out : (Int32 × yb_S)), r_X12_product a1 s = some out → Ct G yX12_product cX12_product 3 (Option.some .boolean) (yb_rm (8 + n)) [.ref (yb_ad G 176), .int a1] (yb_mk s X) (yb_qi X out.2 out.1)) (H_X12_sum : ∀ (a1 : Int32) (s : yb_S) (out : (Int32 × yb_S)), r_X12_sum a1 s = some out → Ct G yX12_sum cX12_sum 3 (Option.some .boolean) (yb_rm (8 + n)) [.ref (yb_ad G 176), .int a1] (yb_mk s X) (yb_qi X out.2 out.1)) (h : f_X12_factor r_X12_factor r_X12_product r_X12_sum a1 s = some out) : Ct G yX12_factor cX12_factor 3 (Option.some .boolean) (yb_rm (9 + n)) [.ref (yb_ad G 176), .int a1] (yb_mk s X) (yb_qi X out.2 out.1) := by
  refine Ct.of (own := RX12) (ini := false) (vs := [some (.ref (yb_ad G 176)), some (.int a1), none]) ⟨rfl, by decide +kernel⟩ (fun h => by cases h) (Nat.le_of_ble_eq_true rfl) rfl ?_
  unfold f_X12_factor at h
  refine n_aload_n (i := 0) dX12_factor_0 rfl rfl ?_
  refine n_bipush (40 : Int32) dX12_factor_1 bp_40 ?_
  obtain ⟨q1, hq1, h⟩ := yb_bind h
  refine p_callVi (As := [.int (40 : Int32)]) (t_X12_isSign hq1) cv_X12_394 (sh_176 _ _) rfl rfl (Nat.le_of_ble_eq_true rfl) dX12_factor_3 (yb_rok (by omega) (by decide)) ⟨rfl, rfl⟩ ⟨Nat.le_refl _, Nat.le_refl _⟩ (fun k2 => ?_)
  refine n_if_eq 56 dX12_factor_6 (by decide) (fun c3 => ?_) (fun c3 => ?_)
  · have h := yb_ifp c3 h
    refine n_aload_n (i := 0) dX12_factor_56 rfl rfl ?_
    obtain ⟨q4, hq4, h⟩ := yb_bind h
    refine p_callVi (As := []) (t_X12_isNumber hq4) cv_X12_403 (sh_176 _ _) rfl rfl (Nat.le_of_ble_eq_true rfl) dX12_factor_57 (yb_rok (by omega) (by decide)) ⟨rfl, rfl⟩ ⟨Nat.le_refl _, Nat.le_refl _⟩ (fun k5 => ?_)
    refine n_if_eq 103 dX12_factor_60 (by decide) (fun c6 => ?_) (fun c6 => ?_)
    · have h := yb_ifp c6 h
      refine n_iconst (0 : Int32) dX12_factor_103 ic_0 ?_
      refine n_istore_n (i := 2) (vs' := [some (.ref (yb_ad G 176)), some (.int a1), some (.int (0 : Int32))]) dX12_factor_104 rfl (Nat.le_of_ble_eq_true rfl) rfl rfl ?_
      exact p_jump (tl_X12_factor_105 H_X12_factor H_X12_product H_X12_sum h) (And.intro rfl (And.intro rfl trivial))
    · have h := yb_ifn c6 h
      refine n_aload_n (i := 0) dX12_factor_63 rfl rfl ?_
      refine p_geti fl_X12_389 (sh_176 _ _) rfl dX12_factor_64 ?_
      refine n_istore_n (i := 2) (vs' := [some (.ref (yb_ad G 176)), some (.int a1), some (.int (q4.2.1 176 49))]) dX12_factor_67 rfl (Nat.le_of_ble_eq_true rfl) rfl rfl ?_
      refine n_aload_n (i := 0) dX12_factor_68 rfl rfl ?_
      refine n_iload_n (i := 2) dX12_factor_69 rfl rfl ?_
      refine n_ldcw (99999 : Int32) k_X12_392 dX12_factor_70 ?_
      refine n_icmp_gt 80 dX12_factor_73 (by decide) (fun c20 => ?_) (fun c20 => ?_)
      · have h := yb_ifp c20 h
        refine n_iconst (0 : Int32) dX12_factor_80 ic_0 ?_
        exact p_jump (tj_X12_factor_81 H_X12_factor H_X12_product H_X12_sum h) (And.intro rfl (And.intro rfl trivial))
      · have h := yb_ifn c20 h
        refine n_iconst (1 : Int32) dX12_factor_76 ic_1 ?_
        refine n_goto 81 dX12_factor_77 (by decide) ?_
        exact p_jump (tj_X12_factor_81 H_X12_factor H_X12_product H_X12_sum h) (And.intro rfl (And.intro rfl trivial))
  · have h := yb_ifn c3 h
    refine n_aload_n (i := 0) dX12_factor_9 rfl rfl ?_
    refine n_iload_n (i := 1) dX12_factor_10 rfl rfl ?_
    refine n_bipush (8 : Int32) dX12_factor_11 bp_8 ?_
    refine n_icmp_ge 20 dX12_factor_13 (by decide) (fun c27 => ?_) (fun c27 => ?_)
    · have h := yb_ifp c27 h
      refine n_iconst (0 : Int32) dX12_factor_20 ic_0 ?_
      exact p_jump (tj_X12_factor_21 H_X12_factor H_X12_product H_X12_sum h) (And.intro rfl (And.intro rfl trivial))
    · have h := yb_ifn c27 h
      refine n_iconst (1 : Int32) dX12_factor_16 ic_1 ?_
      refine n_goto 21 dX12_factor_17 (by decide) ?_
      exact p_jump (tj_X12_factor_21 H_X12_factor H_X12_product H_X12_sum h) (And.intro rfl (And.intro rfl trivial))
set_option maxHeartbeats 4000000 in
set_option maxRecDepth 20000 in
theorem tj_X12_product_28 {G : yb_G} {X : List (FieldType × Nat)} {r_X12_factor : (Int32 → yb_S → Option (Int32 × yb_S))} {r_X12_product : (Int32 → yb_S → Option (Int32 × yb_S))} {r_X12_sum : (Int32 → yb_S → Option (Int32 × yb_S))} {n : Nat} {rc10 : (yb_S → Option (Int32 × yb_S))} {x1 : Int32} {s : yb_S} {out : (Int32 × yb_S)} (H_X12_factor : ∀ (a1 : Int32) (s : yb_S) (out : (Int32 × yb_S)), r_X12_factor a1 s = some out → Ct G yX12_factor cX12_factor 3 (Option.some .boolean) (yb_rm (8 + n)) [.ref (yb_ad G 176), .int a1] (yb_mk s X) (yb_qi X out.2 out.1)) (H_X12_product : ∀ (a1 : Int32) (s : yb_S) (out : (Int32 × yb_S)), r_X12_product a1 s = some out → Ct G yX12_product cX12_product 3 (Option.some .boolean) (yb_rm (8 + n)) [.ref (yb_ad G 176), .int a1] (yb_mk s X) (yb_qi X out.2 out.1)) (H_X12_sum : ∀ (a1 : Int32) (s : yb_S) (out : (Int32 × yb_S)), r_X12_sum a1 s = some out → Ct G yX12_sum cX12_sum 3 (Option.some .boolean) (yb_rm (8 + n)) [.ref (yb_ad G 176), .int a1] (yb_mk s X) (yb_qi X out.2 out.1)) (hrc10 : ∀ (s' : yb_S), rc10 s' = some out → Rn G RX12 cX12_product 3 (Option.some .boolean) false (yb_rm (9 + n)) (yb_qi X out.2 out.1) 0 0 10 [some (.ref (yb_ad G 176)), some (.int x1), none] [] (yb_mk s' X)) (h : j_X12_product_28 r_X12_factor r_X12_product r_X12_sum rc10 x1 s = some out) : Rn G RX12 cX12_product 3 (Option.some .boolean) false (yb_rm (9 + n)) (yb_qi X out.2 out.1) 0 0 28 [some (.ref (yb_ad G 176)), some (.int x1), none] [] (yb_mk s X) := by
  unfold j_X12_product_28 at h
  refine n_aload_n (i := 0) dX12_product_28 rfl rfl ?_
  refine p_getr fl_X12_119 (sh_176 _ _) rfl (rR_176_43 _ _) dX12_product_29 ?_
  refine n_aload_n (i := 0) dX12_product_32 rfl rfl ?_
  refine p_geti fl_X12_350 (sh_176 _ _) rfl dX12_product_33 ?_
  obtain ⟨v7, hv7, h⟩ := yb_bind h
  refine p_bald hv7 (sh_242 _ _) dX12_product_36 ?_
  refine n_istore_n (i := 2) (vs' := [some (.ref (yb_ad G 176)), some (.int x1), some (.int v7)]) dX12_product_37 rfl (Nat.le_of_ble_eq_true rfl) rfl rfl ?_
  refine n_aload_n (i := 0) dX12_product_38 rfl rfl ?_
  obtain ⟨q8, hq8, h⟩ := yb_bind h
  refine p_callVv (As := []) (t_X12_goesOn hq8) cv_X12_380 (sh_176 _ _) rfl rfl (Nat.le_of_ble_eq_true rfl) dX12_product_39 (yb_rok (by omega) (by decide)) ⟨rfl, rfl⟩ ⟨Nat.le_refl _, Nat.le_refl _⟩ (fun k9 => ?_)
  refine n_aload_n (i := 0) dX12_product_42 rfl rfl ?_
  refine n_iload_n (i := 1) dX12_product_43 rfl rfl ?_
  obtain ⟨q10, hq10, h⟩ := yb_bind h
  refine p_callVi (As := [.int x1]) (H_X12_factor x1 _ _ hq10) cv_X12_413 (sh_176 _ _) rfl rfl (Nat.le_of_ble_eq_true rfl) dX12_product_44 (yb_rok (by omega) (by decide)) ⟨rfl, rfl⟩ ⟨Nat.le_refl _, Nat.le_refl _⟩ (fun k11 => ?_)
  refine n_if_ne 52 dX12_product_47 (by decide) (fun c12 => ?_) (fun c12 => ?_)
  · have h := yb_ifn c12 h
    refine n_aload_n (i := 0) dX12_product_52 rfl rfl ?_
    refine n_iload_n (i := 2) dX12_product_53 rfl rfl ?_
    refine n_iconst (0 : Int32) dX12_product_54 ic_0 ?_
    obtain ⟨q13, hq13, h⟩ := yb_bind h
    refine p_callVi (As := [.int v7, .int (0 : Int32)]) (t_X12_puts hq13) cv_X12_406 (sh_176 _ _) rfl rfl (Nat.le_of_ble_eq_true rfl) dX12_product_55 (yb_rok (by omega) (by decide)) ⟨rfl, rfl⟩ ⟨Nat.le_refl _, Nat.le_refl _⟩ (fun k14 => ?_)
    refine n_pop dX12_product_58 rfl ?_
    refine n_goto 10 dX12_product_59 (by decide) ?_
    exact p_jump (hrc10  q13.2 h) (And.intro rfl (And.intro rfl trivial))
  · have h := yb_ifp c12 h
    refine n_iconst (0 : Int32) dX12_product_50 ic_0 ?_
    cases h
    exact n_iret dX12_product_51 rfl (by decide) (Nat.le_refl _) (Nat.le_refl _) ⟨rfl, rfl⟩
set_option maxHeartbeats 4000000 in
set_option maxRecDepth 20000 in
theorem t_l_X12_product_10 {G : yb_G} {X : List (FieldType × Nat)} {r_X12_factor : (Int32 → yb_S → Option (Int32 × yb_S))} {r_X12_product : (Int32 → yb_S → Option (Int32 × yb_S))} {r_X12_sum : (Int32 → yb_S → Option (Int32 × yb_S))} {n : Nat} {x1 : Int32} {out : (Int32 × yb_S)} (H_X12_factor : ∀ (a1 : Int32) (s : yb_S) (out : (Int32 × yb_S)), r_X12_factor a1 s = some out → Ct G yX12_factor cX12_factor 3 (Option.some .boolean) (yb_rm (8 + n)) [.ref (yb_ad G 176), .int a1] (yb_mk s X) (yb_qi X out.2 out.1)) (H_X12_product : ∀ (a1 : Int32) (s : yb_S) (out : (Int32 × yb_S)), r_X12_product a1 s = some out → Ct G yX12_product cX12_product 3 (Option.some .boolean) (yb_rm (8 + n)) [.ref (yb_ad G 176), .int a1] (yb_mk s X) (yb_qi X out.2 out.1)) (H_X12_sum : ∀ (a1 : Int32) (s : yb_S) (out : (Int32 × yb_S)), r_X12_sum a1 s = some out → Ct G yX12_sum cX12_sum 3 (Option.some .boolean) (yb_rm (8 + n)) [.ref (yb_ad G 176), .int a1] (yb_mk s X) (yb_qi X out.2 out.1)) : ∀ (k0 : Nat) (s : yb_S), l_X12_product_10 r_X12_factor r_X12_product r_X12_sum x1 k0 s = some out → Rn G RX12 cX12_product 3 (Option.some .boolean) false (yb_rm (9 + n)) (yb_qi X out.2 out.1) 0 0 10 [some (.ref (yb_ad G 176)), some (.int x1), none] [] (yb_mk s X) := by
  intro k0
  induction k0 with
  | zero => intro s h; cases h
  | succ k0 ih =>
    intro s h
    have h : f_X12_product_10 r_X12_factor r_X12_product r_X12_sum (fun s => l_X12_product_10 r_X12_factor r_X12_product r_X12_sum x1 k0 s) x1 s = some out := h
    have hrc10 := ih
    unfold f_X12_product_10 at h
    refine n_aload_n (i := 0) dX12_product_10 rfl rfl ?_
    refine n_bipush (42 : Int32) dX12_product_11 bp_42 ?_
    obtain ⟨q4, hq4, h⟩ := yb_bind h
    refine p_callVi (As := [.int (42 : Int32)]) (t_X12_isSign hq4) cv_X12_394 (sh_176 _ _) rfl rfl (Nat.le_of_ble_eq_true rfl) dX12_product_13 (yb_rok (by omega) (by decide)) ⟨rfl, rfl⟩ ⟨Nat.le_refl _, Nat.le_refl _⟩ (fun k5 => ?_)
    refine n_if_ne 28 dX12_product_16 (by decide) (fun c6 => ?_) (fun c6 => ?_)
    · have h := yb_ifn c6 h
      exact p_jump (tj_X12_product_28 H_X12_factor H_X12_product H_X12_sum hrc10 h) (And.intro rfl (And.intro rfl trivial))
    · have h := yb_ifp c6 h
      refine n_aload_n (i := 0) dX12_product_19 rfl rfl ?_
      refine n_bipush (47 : Int32) dX12_product_20 bp_47 ?_
      obtain ⟨q15, hq15, h⟩ := yb_bind h
      refine p_callVi (As := [.int (47 : Int32)]) (t_X12_isSign hq15) cv_X12_394 (sh_176 _ _) rfl rfl (Nat.le_of_ble_eq_true rfl) dX12_product_22 (yb_rok (by omega) (by decide)) ⟨rfl, rfl⟩ ⟨Nat.le_refl _, Nat.le_refl _⟩ (fun k16 => ?_)
      refine n_if_eq 62 dX12_product_25 (by decide) (fun c17 => ?_) (fun c17 => ?_)
      · have h := yb_ifp c17 h
        refine n_iconst (1 : Int32) dX12_product_62 ic_1 ?_
        cases h
        exact n_iret dX12_product_63 rfl (by decide) (Nat.le_refl _) (Nat.le_refl _) ⟨rfl, rfl⟩
      · have h := yb_ifn c17 h
        exact p_jump (tj_X12_product_28 H_X12_factor H_X12_product H_X12_sum hrc10 h) (And.intro rfl (And.intro rfl trivial))
set_option maxHeartbeats 4000000 in
set_option maxRecDepth 20000 in
theorem tl_X12_product_10 {G : yb_G} {X : List (FieldType × Nat)} {r_X12_factor : (Int32 → yb_S → Option (Int32 × yb_S))} {r_X12_product : (Int32 → yb_S → Option (Int32 × yb_S))} {r_X12_sum : (Int32 → yb_S → Option (Int32 × yb_S))} {n : Nat} {x1 : Int32} {out : (Int32 × yb_S)} (H_X12_factor : ∀ (a1 : Int32) (s : yb_S) (out : (Int32 × yb_S)), r_X12_factor a1 s = some out → Ct G yX12_factor cX12_factor 3 (Option.some .boolean) (yb_rm (8 + n)) [.ref (yb_ad G 176), .int a1] (yb_mk s X) (yb_qi X out.2 out.1)) (H_X12_product : ∀ (a1 : Int32) (s : yb_S) (out : (Int32 × yb_S)), r_X12_product a1 s = some out → Ct G yX12_product cX12_product 3 (Option.some .boolean) (yb_rm (8 + n)) [.ref (yb_ad G 176), .int a1] (yb_mk s X) (yb_qi X out.2 out.1)) (H_X12_sum : ∀ (a1 : Int32) (s : yb_S) (out : (Int32 × yb_S)), r_X12_sum a1 s = some out → Ct G yX12_sum cX12_sum 3 (Option.some .boolean) (yb_rm (8 + n)) [.ref (yb_ad G 176), .int a1] (yb_mk s X) (yb_qi X out.2 out.1)) {s : yb_S} (h : l_X12_product_10 r_X12_factor r_X12_product r_X12_sum x1 yb_N s = some out) : Rn G RX12 cX12_product 3 (Option.some .boolean) false (yb_rm (9 + n)) (yb_qi X out.2 out.1) 0 0 10 [some (.ref (yb_ad G 176)), some (.int x1), none] [] (yb_mk s X) := t_l_X12_product_10 H_X12_factor H_X12_product H_X12_sum _ _ h
set_option maxHeartbeats 4000000 in
set_option maxRecDepth 20000 in
theorem t_X12_product {G : yb_G} {X : List (FieldType × Nat)} {r_X12_factor : (Int32 → yb_S → Option (Int32 × yb_S))} {r_X12_product : (Int32 → yb_S → Option (Int32 × yb_S))} {r_X12_sum : (Int32 → yb_S → Option (Int32 × yb_S))} {n : Nat} {a1 : Int32} {s : yb_S} {out : (Int32 × yb_S)} (H_X12_factor : ∀ (a1 : Int32) (s : yb_S) (out : (Int32 × yb_S)), r_X12_factor a1 s = some out → Ct G yX12_factor cX12_factor 3 (Option.some .boolean) (yb_rm (8 + n)) [.ref (yb_ad G 176), .int a1] (yb_mk s X) (yb_qi X out.2 out.1)) (H_X12_product : ∀ (a1 : Int32) (s : yb_S) (out : (Int32 × yb_S)), r_X12_product a1 s = some out → Ct G yX12_product cX12_product 3 (Option.some .boolean) (yb_rm (8 + n)) [.ref (yb_ad G 176), .int a1] (yb_mk s X) (yb_qi X out.2 out.1)) (H_X12_sum : ∀ (a1 : Int32) (s : yb_S) (out : (Int32 × yb_S)), r_X12_sum a1 s = some out → Ct G yX12_sum cX12_sum 3 (Option.some .boolean) (yb_rm (8 + n)) [.ref (yb_ad G 176), .int a1] (yb_mk s X) (yb_qi X out.2 out.1)) (h : f_X12_product r_X12_factor r_X12_product r_X12_sum a1 s = some out) : Ct G yX12_product cX12_product 3 (Option.some .boolean) (yb_rm (9 + n)) [.ref (yb_ad G 176), .int a1] (yb_mk s X) (yb_qi X out.2 out.1) := by
  refine Ct.of (own := RX12) (ini := false) (vs := [some (.ref (yb_ad G 176)), some (.int a1), none]) ⟨rfl, by decide +kernel⟩ (fun h => by cases h) (Nat.le_of_ble_eq_true rfl) rfl ?_
  unfold f_X12_product at h
  refine n_aload_n (i := 0) dX12_product_0 rfl rfl ?_
  refine n_iload_n (i := 1) dX12_product_1 rfl rfl ?_
  obtain ⟨q1, hq1, h⟩ := yb_bind h
  refine p_callVi (As := [.int a1]) (H_X12_factor a1 _ _ hq1) cv_X12_413 (sh_176 _ _) rfl rfl (Nat.le_of_ble_eq_true rfl) dX12_product_2 (yb_rok (by omega) (by decide)) ⟨rfl, rfl⟩ ⟨Nat.le_refl _, Nat.le_refl _⟩ (fun k2 => ?_)
  refine n_if_ne 10 dX12_product_5 (by decide) (fun c3 => ?_) (fun c3 => ?_)
  · have h := yb_ifn c3 h
    exact p_jump (tl_X12_product_10 H_X12_factor H_X12_product H_X12_sum h) (And.intro rfl (And.intro rfl trivial))
  · have h := yb_ifp c3 h
    refine n_iconst (0 : Int32) dX12_product_8 ic_0 ?_
    cases h
    exact n_iret dX12_product_9 rfl (by decide) (Nat.le_refl _) (Nat.le_refl _) ⟨rfl, rfl⟩
set_option maxHeartbeats 4000000 in
set_option maxRecDepth 20000 in
theorem tj_X12_sum_28 {G : yb_G} {X : List (FieldType × Nat)} {r_X12_factor : (Int32 → yb_S → Option (Int32 × yb_S))} {r_X12_product : (Int32 → yb_S → Option (Int32 × yb_S))} {r_X12_sum : (Int32 → yb_S → Option (Int32 × yb_S))} {n : Nat} {rc10 : (yb_S → Option (Int32 × yb_S))} {x1 : Int32} {s : yb_S} {out : (Int32 × yb_S)} (H_X12_factor : ∀ (a1 : Int32) (s : yb_S) (out : (Int32 × yb_S)), r_X12_factor a1 s = some out → Ct G yX12_factor cX12_factor 3 (Option.some .boolean) (yb_rm (8 + n)) [.ref (yb_ad G 176), .int a1] (yb_mk s X) (yb_qi X out.2 out.1)) (H_X12_product : ∀ (a1 : Int32) (s : yb_S) (out : (Int32 × yb_S)), r_X12_product a1 s = some out → Ct G yX12_product cX12_product 3 (Option.some .boolean) (yb_rm (8 + n)) [.ref (yb_ad G 176), .int a1] (yb_mk s X) (yb_qi X out.2 out.1)) (H_X12_sum : ∀ (a1 : Int32) (s : yb_S) (out : (Int32 × yb_S)), r_X12_sum a1 s = some out → Ct G yX12_sum cX12_sum 3 (Option.some .boolean) (yb_rm (8 + n)) [.ref (yb_ad G 176), .int a1] (yb_mk s X) (yb_qi X out.2 out.1)) (hrc10 : ∀ (s' : yb_S), rc10 s' = some out → Rn G RX12 cX12_sum 3 (Option.some .boolean) false (yb_rm (9 + n)) (yb_qi X out.2 out.1) 0 0 10 [some (.ref (yb_ad G 176)), some (.int x1), none] [] (yb_mk s' X)) (h : j_X12_sum_28 r_X12_factor r_X12_product r_X12_sum rc10 x1 s = some out) : Rn G RX12 cX12_sum 3 (Option.some .boolean) false (yb_rm (9 + n)) (yb_qi X out.2 out.1) 0 0 28 [some (.ref (yb_ad G 176)), some (.int x1), none] [] (yb_mk s X) := by
  unfold j_X12_sum_28 at h
  refine n_aload_n (i := 0) dX12_sum_28 rfl rfl ?_
  refine p_getr fl_X12_119 (sh_176 _ _) rfl (rR_176_43 _ _) dX12_sum_29 ?_
  refine n_aload_n (i := 0) dX12_sum_32 rfl rfl ?_
  refine p_geti fl_X12_350 (sh_176 _ _) rfl dX12_sum_33 ?_
  obtain ⟨v7, hv7, h⟩ := yb_bind h
  refine p_bald hv7 (sh_242 _ _) dX12_sum_36 ?_
  refine n_istore_n (i := 2) (vs' := [some (.ref (yb_ad G 176)), some (.int x1), some (.int v7)]) dX12_sum_37 rfl (Nat.le_of_ble_eq_true rfl) rfl rfl ?_
  refine n_aload_n (i := 0) dX12_sum_38 rfl rfl ?_
  obtain ⟨q8, hq8, h⟩ := yb_bind h
  refine p_callVv (As := []) (t_X12_goesOn hq8) cv_X12_380 (sh_176 _ _) rfl rfl (Nat.le_of_ble_eq_true rfl) dX12_sum_39 (yb_rok (by omega) (by decide)) ⟨rfl, rfl⟩ ⟨Nat.le_refl _, Nat.le_refl _⟩ (fun k9 => ?_)
  refine n_aload_n (i := 0) dX12_sum_42 rfl rfl ?_
  refine n_iload_n (i := 1) dX12_sum_43 rfl rfl ?_
  obtain ⟨q10, hq10, h⟩ := yb_bind h
  refine p_callVi (As := [.int x1]) (H_X12_product x1 _ _ hq10) cv_X12_416 (sh_176 _ _) rfl rfl (Nat.le_of_ble_eq_true rfl) dX12_sum_44 (yb_rok (by omega) (by decide)) ⟨rfl, rfl⟩ ⟨Nat.le_refl _, Nat.le_refl _⟩ (fun k11 => ?_)
  refine n_if_ne 52 dX12_sum_47 (by decide) (fun c12 => ?_) (fun c12 => ?_)
  · have h := yb_ifn c12 h
    refine n_aload_n (i := 0) dX12_sum_52 rfl rfl ?_
    refine n_iload_n (i := 2) dX12_sum_53 rfl rfl ?_
    refine n_iconst (0 : Int32) dX12_sum_54 ic_0 ?_
    obtain ⟨q13, hq13, h⟩ := yb_bind h
    refine p_callVi (As := [.int v7, .int (0 : Int32)]) (t_X12_puts hq13) cv_X12_406 (sh_176 _ _) rfl rfl (Nat.le_of_ble_eq_true rfl) dX12_sum_55 (yb_rok (by omega) (by decide)) ⟨rfl, rfl⟩ ⟨Nat.le_refl _, Nat.le_refl _⟩ (fun k14 => ?_)
    refine n_pop dX12_sum_58 rfl ?_
    refine n_goto 10 dX12_sum_59 (by decide) ?_
    exact p_jump (hrc10  q13.2 h) (And.intro rfl (And.intro rfl trivial))
  · have h := yb_ifp c12 h
    refine n_iconst (0 : Int32) dX12_sum_50 ic_0 ?_
    cases h
    exact n_iret dX12_sum_51 rfl (by decide) (Nat.le_refl _) (Nat.le_refl _) ⟨rfl, rfl⟩
set_option maxHeartbeats 4000000 in
set_option maxRecDepth 20000 in
theorem t_l_X12_sum_10 {G : yb_G} {X : List (FieldType × Nat)} {r_X12_factor : (Int32 → yb_S → Option (Int32 × yb_S))} {r_X12_product : (Int32 → yb_S → Option (Int32 × yb_S))} {r_X12_sum : (Int32 → yb_S → Option (Int32 × yb_S))} {n : Nat} {x1 : Int32} {out : (Int32 × yb_S)} (H_X12_factor : ∀ (a1 : Int32) (s : yb_S) (out : (Int32 × yb_S)), r_X12_factor a1 s = some out → Ct G yX12_factor cX12_factor 3 (Option.some .boolean) (yb_rm (8 + n)) [.ref (yb_ad G 176), .int a1] (yb_mk s X) (yb_qi X out.2 out.1)) (H_X12_product : ∀ (a1 : Int32) (s : yb_S) (out : (Int32 × yb_S)), r_X12_product a1 s = some out → Ct G yX12_product cX12_product 3 (Option.some .boolean) (yb_rm (8 + n)) [.ref (yb_ad G 176), .int a1] (yb_mk s X) (yb_qi X out.2 out.1)) (H_X12_sum : ∀ (a1 : Int32) (s : yb_S) (out : (Int32 × yb_S)), r_X12_sum a1 s = some out → Ct G yX12_sum cX12_sum 3 (Option.some .boolean) (yb_rm (8 + n)) [.ref (yb_ad G 176), .int a1] (yb_mk s X) (yb_qi X out.2 out.1)) : ∀ (k0 : Nat) (s : yb_S), l_X12_sum_10 r_X12_factor r_X12_product r_X12_sum x1 k0 s = some out → Rn G RX12 cX12_sum 3 (Option.some .boolean) false (yb_rm (9 + n)) (yb_qi X out.2 out.1) 0 0 10 [some (.ref (yb_ad G 176)), some (.int x1), none] [] (yb_mk s X) := by
  intro k0
  induction k0 with
  | zero => intro s h; cases h
  | succ k0 ih =>
    intro s h
    have h : f_X12_sum_10 r_X12_factor r_X12_product r_X12_sum (fun s => l_X12_sum_10 r_X12_factor r_X12_product r_X12_sum x1 k0 s) x1 s = some out := h
    have hrc10 := ih
    unfold f_X12_sum_10 at h
    refine n_aload_n (i := 0) dX12_sum_10 rfl rfl ?_
    refine n_bipush (43 : Int32) dX12_sum_11 bp_43 ?_
    obtain ⟨q4, hq4, h⟩ := yb_bind h
    refine p_callVi (As := [.int (43 : Int32)]) (t_X12_isSign hq4) cv_X12_394 (sh_176 _ _) rfl rfl (Nat.le_of_ble_eq_true rfl) dX12_sum_13 (yb_rok (by omega) (by decide)) ⟨rfl, rfl⟩ ⟨Nat.le_refl _, Nat.le_refl _⟩ (fun k5 => ?_)
    refine n_if_ne 28 dX12_sum_16 (by decide) (fun c6 => ?_) (fun c6 => ?_)
    · have h := yb_ifn c6 h
      exact p_jump (tj_X12_sum_28 H_X12_factor H_X12_product H_X12_sum hrc10 h) (And.intro rfl (And.intro rfl trivial))
    · have h := yb_ifp c6 h
      refine n_aload_n (i := 0) dX12_sum_19 rfl rfl ?_
      refine n_bipush (45 : Int32) dX12_sum_20 bp_45 ?_
      obtain ⟨q15, hq15, h⟩ := yb_bind h
      refine p_callVi (As := [.int (45 : Int32)]) (t_X12_isSign hq15) cv_X12_394 (sh_176 _ _) rfl rfl (Nat.le_of_ble_eq_true rfl) dX12_sum_22 (yb_rok (by omega) (by decide)) ⟨rfl, rfl⟩ ⟨Nat.le_refl _, Nat.le_refl _⟩ (fun k16 => ?_)
      refine n_if_eq 62 dX12_sum_25 (by decide) (fun c17 => ?_) (fun c17 => ?_)
      · have h := yb_ifp c17 h
        refine n_iconst (1 : Int32) dX12_sum_62 ic_1 ?_
        cases h
        exact n_iret dX12_sum_63 rfl (by decide) (Nat.le_refl _) (Nat.le_refl _) ⟨rfl, rfl⟩
      · have h := yb_ifn c17 h
        exact p_jump (tj_X12_sum_28 H_X12_factor H_X12_product H_X12_sum hrc10 h) (And.intro rfl (And.intro rfl trivial))
set_option maxHeartbeats 4000000 in
set_option maxRecDepth 20000 in
theorem tl_X12_sum_10 {G : yb_G} {X : List (FieldType × Nat)} {r_X12_factor : (Int32 → yb_S → Option (Int32 × yb_S))} {r_X12_product : (Int32 → yb_S → Option (Int32 × yb_S))} {r_X12_sum : (Int32 → yb_S → Option (Int32 × yb_S))} {n : Nat} {x1 : Int32} {out : (Int32 × yb_S)} (H_X12_factor : ∀ (a1 : Int32) (s : yb_S) (out : (Int32 × yb_S)), r_X12_factor a1 s = some out → Ct G yX12_factor cX12_factor 3 (Option.some .boolean) (yb_rm (8 + n)) [.ref (yb_ad G 176), .int a1] (yb_mk s X) (yb_qi X out.2 out.1)) (H_X12_product : ∀ (a1 : Int32) (s : yb_S) (out : (Int32 × yb_S)), r_X12_product a1 s = some out → Ct G yX12_product cX12_product 3 (Option.some .boolean) (yb_rm (8 + n)) [.ref (yb_ad G 176), .int a1] (yb_mk s X) (yb_qi X out.2 out.1)) (H_X12_sum : ∀ (a1 : Int32) (s : yb_S) (out : (Int32 × yb_S)), r_X12_sum a1 s = some out → Ct G yX12_sum cX12_sum 3 (Option.some .boolean) (yb_rm (8 + n)) [.ref (yb_ad G 176), .int a1] (yb_mk s X) (yb_qi X out.2 out.1)) {s : yb_S} (h : l_X12_sum_10 r_X12_factor r_X12_product r_X12_sum x1 yb_N s = some out) : Rn G RX12 cX12_sum 3 (Option.some .boolean) false (yb_rm (9 + n)) (yb_qi X out.2 out.1) 0 0 10 [some (.ref (yb_ad G 176)), some (.int x1), none] [] (yb_mk s X) := t_l_X12_sum_10 H_X12_factor H_X12_product H_X12_sum _ _ h
set_option maxHeartbeats 4000000 in
set_option maxRecDepth 20000 in
theorem t_X12_sum {G : yb_G} {X : List (FieldType × Nat)} {r_X12_factor : (Int32 → yb_S → Option (Int32 × yb_S))} {r_X12_product : (Int32 → yb_S → Option (Int32 × yb_S))} {r_X12_sum : (Int32 → yb_S → Option (Int32 × yb_S))} {n : Nat} {a1 : Int32} {s : yb_S} {out : (Int32 × yb_S)} (H_X12_factor : ∀ (a1 : Int32) (s : yb_S) (out : (Int32 × yb_S)), r_X12_factor a1 s = some out → Ct G yX12_factor cX12_factor 3 (Option.some .boolean) (yb_rm (8 + n)) [.ref (yb_ad G 176), .int a1] (yb_mk s X) (yb_qi X out.2 out.1)) (H_X12_product : ∀ (a1 : Int32) (s : yb_S) (out : (Int32 × yb_S)), r_X12_product a1 s = some out → Ct G yX12_product cX12_product 3 (Option.some .boolean) (yb_rm (8 + n)) [.ref (yb_ad G 176), .int a1] (yb_mk s X) (yb_qi X out.2 out.1)) (H_X12_sum : ∀ (a1 : Int32) (s : yb_S) (out : (Int32 × yb_S)), r_X12_sum a1 s = some out → Ct G yX12_sum cX12_sum 3 (Option.some .boolean) (yb_rm (8 + n)) [.ref (yb_ad G 176), .int a1] (yb_mk s X) (yb_qi X out.2 out.1)) (h : f_X12_sum r_X12_factor r_X12_product r_X12_sum a1 s = some out) : Ct G yX12_sum cX12_sum 3 (Option.some .boolean) (yb_rm (9 + n)) [.ref (yb_ad G 176), .int a1] (yb_mk s X) (yb_qi X out.2 out.1) := by
  refine Ct.of (own := RX12) (ini := false) (vs := [some (.ref (yb_ad G 176)), some (.int a1), none]) ⟨rfl, by decide +kernel⟩ (fun h => by cases h) (Nat.le_of_ble_eq_true rfl) rfl ?_
  unfold f_X12_sum at h
  refine n_aload_n (i := 0) dX12_sum_0 rfl rfl ?_
  refine n_iload_n (i := 1) dX12_sum_1 rfl rfl ?_
  obtain ⟨q1, hq1, h⟩ := yb_bind h
  refine p_callVi (As := [.int a1]) (H_X12_product a1 _ _ hq1) cv_X12_416 (sh_176 _ _) rfl rfl (Nat.le_of_ble_eq_true rfl) dX12_sum_2 (yb_rok (by omega) (by decide)) ⟨rfl, rfl⟩ ⟨Nat.le_refl _, Nat.le_refl _⟩ (fun k2 => ?_)
  refine n_if_ne 10 dX12_sum_5 (by decide) (fun c3 => ?_) (fun c3 => ?_)
  · have h := yb_ifn c3 h
    exact p_jump (tl_X12_sum_10 H_X12_factor H_X12_product H_X12_sum h) (And.intro rfl (And.intro rfl trivial))
  · have h := yb_ifp c3 h
    refine n_iconst (0 : Int32) dX12_sum_8 ic_0 ?_
    cases h
    exact n_iret dX12_sum_9 rfl (by decide) (Nat.le_refl _) (Nat.le_refl _) ⟨rfl, rfl⟩
set_option maxHeartbeats 4000000 in
set_option maxRecDepth 20000 in
theorem tg_X12_factor (G : yb_G) (X : List (FieldType × Nat)) : ∀ n : Nat, (∀ (a1 : Int32) (s : yb_S) (out : (Int32 × yb_S)), (gg_X12_factor n).1 a1 s = some out → Ct G yX12_factor cX12_factor 3 (Option.some .boolean) (yb_rm (8 + n)) [.ref (yb_ad G 176), .int a1] (yb_mk s X) (yb_qi X out.2 out.1)) ∧ (∀ (a1 : Int32) (s : yb_S) (out : (Int32 × yb_S)), (gg_X12_factor n).2.1 a1 s = some out → Ct G yX12_product cX12_product 3 (Option.some .boolean) (yb_rm (8 + n)) [.ref (yb_ad G 176), .int a1] (yb_mk s X) (yb_qi X out.2 out.1)) ∧ (∀ (a1 : Int32) (s : yb_S) (out : (Int32 × yb_S)), (gg_X12_factor n).2.2 a1 s = some out → Ct G yX12_sum cX12_sum 3 (Option.some .boolean) (yb_rm (8 + n)) [.ref (yb_ad G 176), .int a1] (yb_mk s X) (yb_qi X out.2 out.1)) := by
  intro n
  induction n with
  | zero => exact ⟨(fun _ _ _ h => by cases h), (fun _ _ _ h => by cases h), (fun _ _ _ h => by cases h)⟩
  | succ n ih =>
    obtain ⟨h0, h1, h2⟩ := ih
    rw [show 8 + (n + 1) = 9 + n from by omega]
    exact ⟨(fun a1 s out h => t_X12_factor h0 h1 h2 h), (fun a1 s out h => t_X12_product h0 h1 h2 h), (fun a1 s out h => t_X12_sum h0 h1 h2 h)⟩
set_option maxHeartbeats 4000000 in
set_option maxRecDepth 20000 in
theorem tt_X12_factor {G : yb_G} {X : List (FieldType × Nat)} {a1 : Int32} {s : yb_S} {out : (Int32 × yb_S)} (h : g_X12_factor a1 s = some out) : Ct G yX12_factor cX12_factor 3 (Option.some .boolean) (yb_rm 128) [.ref (yb_ad G 176), .int a1] (yb_mk s X) (yb_qi X out.2 out.1) := (tg_X12_factor G X 120).1 a1 s out h
set_option maxHeartbeats 4000000 in
set_option maxRecDepth 20000 in
theorem tt_X12_product {G : yb_G} {X : List (FieldType × Nat)} {a1 : Int32} {s : yb_S} {out : (Int32 × yb_S)} (h : g_X12_product a1 s = some out) : Ct G yX12_product cX12_product 3 (Option.some .boolean) (yb_rm 128) [.ref (yb_ad G 176), .int a1] (yb_mk s X) (yb_qi X out.2 out.1) := (tg_X12_factor G X 120).2.1 a1 s out h
set_option maxHeartbeats 4000000 in
set_option maxRecDepth 20000 in
theorem tt_X12_sum {G : yb_G} {X : List (FieldType × Nat)} {a1 : Int32} {s : yb_S} {out : (Int32 × yb_S)} (h : g_X12_sum a1 s = some out) : Ct G yX12_sum cX12_sum 3 (Option.some .boolean) (yb_rm 128) [.ref (yb_ad G 176), .int a1] (yb_mk s X) (yb_qi X out.2 out.1) := (tg_X12_factor G X 120).2.2 a1 s out h
set_option maxHeartbeats 4000000 in
set_option maxRecDepth 20000 in
theorem t_l_X12_each_10 {G : yb_G} {X : List (FieldType × Nat)} {r_X12_each : (Int32 → yb_S → Option (Int32 × yb_S))} {r_X12_either : (Int32 → yb_S → Option (Int32 × yb_S))} {r_X12_test : (Int32 → yb_S → Option (Int32 × yb_S))} {n : Nat} {x1 : Int32} {out : (Int32 × yb_S)} (H_X12_each : ∀ (a1 : Int32) (s : yb_S) (out : (Int32 × yb_S)), r_X12_each a1 s = some out → Ct G yX12_each cX12_each 2 (Option.some .boolean) (yb_rm (129 + n)) [.ref (yb_ad G 176), .int a1] (yb_mk s X) (yb_qi X out.2 out.1)) (H_X12_either : ∀ (a1 : Int32) (s : yb_S) (out : (Int32 × yb_S)), r_X12_either a1 s = some out → Ct G yX12_either cX12_either 2 (Option.some .boolean) (yb_rm (129 + n)) [.ref (yb_ad G 176), .int a1] (yb_mk s X) (yb_qi X out.2 out.1)) (H_X12_test : ∀ (a1 : Int32) (s : yb_S) (out : (Int32 × yb_S)), r_X12_test a1 s = some out → Ct G yX12_test cX12_test 3 (Option.some .boolean) (yb_rm (129 + n)) [.ref (yb_ad G 176), .int a1] (yb_mk s X) (yb_qi X out.2 out.1)) : ∀ (k0 : Nat) (s : yb_S), l_X12_each_10 r_X12_each r_X12_either r_X12_test x1 k0 s = some out → Rn G RX12 cX12_each 2 (Option.some .boolean) false (yb_rm (130 + n)) (yb_qi X out.2 out.1) 0 0 10 [some (.ref (yb_ad G 176)), some (.int x1)] [] (yb_mk s X) := by
  intro k0
  induction k0 with
  | zero => intro s h; cases h
  | succ k0 ih =>
    intro s h
    have h : f_X12_each_10 r_X12_each r_X12_either r_X12_test (fun s => l_X12_each_10 r_X12_each r_X12_either r_X12_test x1 k0 s) x1 s = some out := h
    have hrc10 := ih
    unfold f_X12_each_10 at h
    refine n_aload_n (i := 0) dX12_each_10 rfl rfl ?_
    refine n_ldcSw (i := 26) rfl dX12_each_11 ?_
    obtain ⟨q4, hq4, h⟩ := yb_bind h
    refine p_callVi (As := [.ref (yb_ad G 100026)]) (t_X12_isWord_str hq4) cv_X12_409 (sh_176 _ _) rfl rfl (Nat.le_of_ble_eq_true rfl) dX12_each_14 (yb_rok (by omega) (by decide)) ⟨rfl, rfl⟩ ⟨Nat.le_refl _, Nat.le_refl _⟩ (fun k5 => ?_)
    refine n_if_eq 45 dX12_each_17 (by decide) (fun c6 => ?_) (fun c6 => ?_)
    · have h := yb_ifp c6 h
      refine n_iconst (1 : Int32) dX12_each_45 ic_1 ?_
      cases h
      exact n_iret dX12_each_46 rfl (by decide) (Nat.le_refl _) (Nat.le_refl _) ⟨rfl, rfl⟩
    · have h := yb_ifn c6 h
      refine n_aload_n (i := 0) dX12_each_20 rfl rfl ?_
      obtain ⟨q7, hq7, h⟩ := yb_bind h
      refine p_callVv (As := []) (t_X12_goesOn hq7) cv_X12_380 (sh_176 _ _) rfl rfl (Nat.le_of_ble_eq_true rfl) dX12_each_21 (yb_rok (by omega) (by decide)) ⟨rfl, rfl⟩ ⟨Nat.le_refl _, Nat.le_refl _⟩ (fun k8 => ?_)
      refine n_aload_n (i := 0) dX12_each_24 rfl rfl ?_
      refine n_iload_n (i := 1) dX12_each_25 rfl rfl ?_
      obtain ⟨q9, hq9, h⟩ := yb_bind h
      refine p_callVi (As := [.int x1]) (H_X12_test x1 _ _ hq9) cv_X12_421 (sh_176 _ _) rfl rfl (Nat.le_of_ble_eq_true rfl) dX12_each_26 (yb_rok (by omega) (by decide)) ⟨rfl, rfl⟩ ⟨Nat.le_refl _, Nat.le_refl _⟩ (fun k10 => ?_)
      refine n_if_ne 34 dX12_each_29 (by decide) (fun c11 => ?_) (fun c11 => ?_)
      · have h := yb_ifn c11 h
        refine n_aload_n (i := 0) dX12_each_34 rfl rfl ?_
        refine n_bipush (38 : Int32) dX12_each_35 bp_38 ?_
        refine n_iconst (0 : Int32) dX12_each_37 ic_0 ?_
        obtain ⟨q12, hq12, h⟩ := yb_bind h
        refine p_callVi (As := [.int (38 : Int32), .int (0 : Int32)]) (t_X12_puts hq12) cv_X12_406 (sh_176 _ _) rfl rfl (Nat.le_of_ble_eq_true rfl) dX12_each_38 (yb_rok (by omega) (by decide)) ⟨rfl, rfl⟩ ⟨Nat.le_refl _, Nat.le_refl _⟩ (fun k13 => ?_)
        refine n_pop dX12_each_41 rfl ?_
        refine n_goto 10 dX12_each_42 (by decide) ?_
        exact p_jump (hrc10  q12.2 h) (And.intro rfl (And.intro rfl trivial))
      · have h := yb_ifp c11 h
        refine n_iconst (0 : Int32) dX12_each_32 ic_0 ?_
        cases h
        exact n_iret dX12_each_33 rfl (by decide) (Nat.le_refl _) (Nat.le_refl _) ⟨rfl, rfl⟩
set_option maxHeartbeats 4000000 in
set_option maxRecDepth 20000 in
theorem tl_X12_each_10 {G : yb_G} {X : List (FieldType × Nat)} {r_X12_each : (Int32 → yb_S → Option (Int32 × yb_S))} {r_X12_either : (Int32 → yb_S → Option (Int32 × yb_S))} {r_X12_test : (Int32 → yb_S → Option (Int32 × yb_S))} {n : Nat} {x1 : Int32} {out : (Int32 × yb_S)} (H_X12_each : ∀ (a1 : Int32) (s : yb_S) (out : (Int32 × yb_S)), r_X12_each a1 s = some out → Ct G yX12_each cX12_each 2 (Option.some .boolean) (yb_rm (129 + n)) [.ref (yb_ad G 176), .int a1] (yb_mk s X) (yb_qi X out.2 out.1)) (H_X12_either : ∀ (a1 : Int32) (s : yb_S) (out : (Int32 × yb_S)), r_X12_either a1 s = some out → Ct G yX12_either cX12_either 2 (Option.some .boolean) (yb_rm (129 + n)) [.ref (yb_ad G 176), .int a1] (yb_mk s X) (yb_qi X out.2 out.1)) (H_X12_test : ∀ (a1 : Int32) (s : yb_S) (out : (Int32 × yb_S)), r_X12_test a1 s = some out → Ct G yX12_test cX12_test 3 (Option.some .boolean) (yb_rm (129 + n)) [.ref (yb_ad G 176), .int a1] (yb_mk s X) (yb_qi X out.2 out.1)) {s : yb_S} (h : l_X12_each_10 r_X12_each r_X12_either r_X12_test x1 yb_N s = some out) : Rn G RX12 cX12_each 2 (Option.some .boolean) false (yb_rm (130 + n)) (yb_qi X out.2 out.1) 0 0 10 [some (.ref (yb_ad G 176)), some (.int x1)] [] (yb_mk s X) := t_l_X12_each_10 H_X12_each H_X12_either H_X12_test _ _ h
set_option maxHeartbeats 4000000 in
set_option maxRecDepth 20000 in
theorem t_X12_each {G : yb_G} {X : List (FieldType × Nat)} {r_X12_each : (Int32 → yb_S → Option (Int32 × yb_S))} {r_X12_either : (Int32 → yb_S → Option (Int32 × yb_S))} {r_X12_test : (Int32 → yb_S → Option (Int32 × yb_S))} {n : Nat} {a1 : Int32} {s : yb_S} {out : (Int32 × yb_S)} (H_X12_each : ∀ (a1 : Int32) (s : yb_S) (out : (Int32 × yb_S)), r_X12_each a1 s = some out → Ct G yX12_each cX12_each 2 (Option.some .boolean) (yb_rm (129 + n)) [.ref (yb_ad G 176), .int a1] (yb_mk s X) (yb_qi X out.2 out.1)) (H_X12_either : ∀ (a1 : Int32) (s : yb_S) (out : (Int32 × yb_S)), r_X12_either a1 s = some out → Ct G yX12_either cX12_either 2 (Option.some .boolean) (yb_rm (129 + n)) [.ref (yb_ad G 176), .int a1] (yb_mk s X) (yb_qi X out.2 out.1)) (H_X12_test : ∀ (a1 : Int32) (s : yb_S) (out : (Int32 × yb_S)), r_X12_test a1 s = some out → Ct G yX12_test cX12_test 3 (Option.some .boolean) (yb_rm (129 + n)) [.ref (yb_ad G 176), .int a1] (yb_mk s X) (yb_qi X out.2 out.1)) (h : f_X12_each r_X12_each r_X12_either r_X12_test a1 s = some out) : Ct G yX12_each cX12_each 2 (Option.some .boolean) (yb_rm (130 + n)) [.ref (yb_ad G 176), .int a1] (yb_mk s X) (yb_qi X out.2 out.1) := by
  refine Ct.of (own := RX12) (ini := false) (vs := [some (.ref (yb_ad G 176)), some (.int a1)]) ⟨rfl, by decide +kernel⟩ (fun h => by cases h) (Nat.le_of_ble_eq_true rfl) rfl ?_
  unfold f_X12_each at h
  refine n_aload_n (i := 0) dX12_each_0 rfl rfl ?_
  refine n_iload_n (i := 1) dX12_each_1 rfl rfl ?_
  obtain ⟨q1, hq1, h⟩ := yb_bind h
  refine p_callVi (As := [.int a1]) (H_X12_test a1 _ _ hq1) cv_X12_421 (sh_176 _ _) rfl rfl (Nat.le_of_ble_eq_true rfl) dX12_each_2 (yb_rok (by omega) (by decide)) ⟨rfl, rfl⟩ ⟨Nat.le_refl _, Nat.le_refl _⟩ (fun k2 => ?_)
  refine n_if_ne 10 dX12_each_5 (by decide) (fun c3 => ?_) (fun c3 => ?_)
  · have h := yb_ifn c3 h
    exact p_jump (tl_X12_each_10 H_X12_each H_X12_either H_X12_test h) (And.intro rfl (And.intro rfl trivial))
  · have h := yb_ifp c3 h
    refine n_iconst (0 : Int32) dX12_each_8 ic_0 ?_
    cases h
    exact n_iret dX12_each_9 rfl (by decide) (Nat.le_refl _) (Nat.le_refl _) ⟨rfl, rfl⟩
set_option maxHeartbeats 4000000 in
set_option maxRecDepth 20000 in
theorem t_l_X12_either_10 {G : yb_G} {X : List (FieldType × Nat)} {r_X12_each : (Int32 → yb_S → Option (Int32 × yb_S))} {r_X12_either : (Int32 → yb_S → Option (Int32 × yb_S))} {r_X12_test : (Int32 → yb_S → Option (Int32 × yb_S))} {n : Nat} {x1 : Int32} {out : (Int32 × yb_S)} (H_X12_each : ∀ (a1 : Int32) (s : yb_S) (out : (Int32 × yb_S)), r_X12_each a1 s = some out → Ct G yX12_each cX12_each 2 (Option.some .boolean) (yb_rm (129 + n)) [.ref (yb_ad G 176), .int a1] (yb_mk s X) (yb_qi X out.2 out.1)) (H_X12_either : ∀ (a1 : Int32) (s : yb_S) (out : (Int32 × yb_S)), r_X12_either a1 s = some out → Ct G yX12_either cX12_either 2 (Option.some .boolean) (yb_rm (129 + n)) [.ref (yb_ad G 176), .int a1] (yb_mk s X) (yb_qi X out.2 out.1)) (H_X12_test : ∀ (a1 : Int32) (s : yb_S) (out : (Int32 × yb_S)), r_X12_test a1 s = some out → Ct G yX12_test cX12_test 3 (Option.some .boolean) (yb_rm (129 + n)) [.ref (yb_ad G 176), .int a1] (yb_mk s X) (yb_qi X out.2 out.1)) : ∀ (k0 : Nat) (s : yb_S), l_X12_either_10 r_X12_each r_X12_either r_X12_test x1 k0 s = some out → Rn G RX12 cX12_either 2 (Option.some .boolean) false (yb_rm (130 + n)) (yb_qi X out.2 out.1) 0 0 10 [some (.ref (yb_ad G 176)), some (.int x1)] [] (yb_mk s X) := by
  intro k0
  induction k0 with
  | zero => intro s h; cases h
  | succ k0 ih =>
    intro s h
    have h : f_X12_either_10 r_X12_each r_X12_either r_X12_test (fun s => l_X12_either_10 r_X12_each r_X12_either r_X12_test x1 k0 s) x1 s = some out := h
    have hrc10 := ih
    unfold f_X12_either_10 at h
    refine n_aload_n (i := 0) dX12_either_10 rfl rfl ?_
    refine n_ldcSw (i := 27) rfl dX12_either_11 ?_
    obtain ⟨q4, hq4, h⟩ := yb_bind h
    refine p_callVi (As := [.ref (yb_ad G 100027)]) (t_X12_isWord_str hq4) cv_X12_409 (sh_176 _ _) rfl rfl (Nat.le_of_ble_eq_true rfl) dX12_either_14 (yb_rok (by omega) (by decide)) ⟨rfl, rfl⟩ ⟨Nat.le_refl _, Nat.le_refl _⟩ (fun k5 => ?_)
    refine n_if_eq 45 dX12_either_17 (by decide) (fun c6 => ?_) (fun c6 => ?_)
    · have h := yb_ifp c6 h
      refine n_iconst (1 : Int32) dX12_either_45 ic_1 ?_
      cases h
      exact n_iret dX12_either_46 rfl (by decide) (Nat.le_refl _) (Nat.le_refl _) ⟨rfl, rfl⟩
    · have h := yb_ifn c6 h
      refine n_aload_n (i := 0) dX12_either_20 rfl rfl ?_
      obtain ⟨q7, hq7, h⟩ := yb_bind h
      refine p_callVv (As := []) (t_X12_goesOn hq7) cv_X12_380 (sh_176 _ _) rfl rfl (Nat.le_of_ble_eq_true rfl) dX12_either_21 (yb_rok (by omega) (by decide)) ⟨rfl, rfl⟩ ⟨Nat.le_refl _, Nat.le_refl _⟩ (fun k8 => ?_)
      refine n_aload_n (i := 0) dX12_either_24 rfl rfl ?_
      refine n_iload_n (i := 1) dX12_either_25 rfl rfl ?_
      obtain ⟨q9, hq9, h⟩ := yb_bind h
      refine p_callVi (As := [.int x1]) (H_X12_each x1 _ _ hq9) cv_X12_429 (sh_176 _ _) rfl rfl (Nat.le_of_ble_eq_true rfl) dX12_either_26 (yb_rok (by omega) (by decide)) ⟨rfl, rfl⟩ ⟨Nat.le_refl _, Nat.le_refl _⟩ (fun k10 => ?_)
      refine n_if_ne 34 dX12_either_29 (by decide) (fun c11 => ?_) (fun c11 => ?_)
      · have h := yb_ifn c11 h
        refine n_aload_n (i := 0) dX12_either_34 rfl rfl ?_
        refine n_bipush (124 : Int32) dX12_either_35 bp_124 ?_
        refine n_iconst (0 : Int32) dX12_either_37 ic_0 ?_
        obtain ⟨q12, hq12, h⟩ := yb_bind h
        refine p_callVi (As := [.int (124 : Int32), .int (0 : Int32)]) (t_X12_puts hq12) cv_X12_406 (sh_176 _ _) rfl rfl (Nat.le_of_ble_eq_true rfl) dX12_either_38 (yb_rok (by omega) (by decide)) ⟨rfl, rfl⟩ ⟨Nat.le_refl _, Nat.le_refl _⟩ (fun k13 => ?_)
        refine n_pop dX12_either_41 rfl ?_
        refine n_goto 10 dX12_either_42 (by decide) ?_
        exact p_jump (hrc10  q12.2 h) (And.intro rfl (And.intro rfl trivial))
      · have h := yb_ifp c11 h
        refine n_iconst (0 : Int32) dX12_either_32 ic_0 ?_
        cases h
        exact n_iret dX12_either_33 rfl (by decide) (Nat.le_refl _) (Nat.le_refl _) ⟨rfl, rfl⟩
set_option maxHeartbeats 4000000 in
set_option maxRecDepth 20000 in
theorem tl_X12_either_10 {G : yb_G} {X : List (FieldType × Nat)} {r_X12_each : (Int32 → yb_S → Option (Int32 × yb_S))} {r_X12_either : (Int32 → yb_S → Option (Int32 × yb_S))} {r_X12_test : (Int32 → yb_S → Option (Int32 × yb_S))} {n : Nat} {x1 : Int32} {out : (Int32 × yb_S)} (H_X12_each : ∀ (a1 : Int32) (s : yb_S) (out : (Int32 × yb_S)), r_X12_each a1 s = some out → Ct G yX12_each cX12_each 2 (Option.some .boolean) (yb_rm (129 + n)) [.ref (yb_ad G 176), .int a1] (yb_mk s X) (yb_qi X out.2 out.1)) (H_X12_either : ∀ (a1 : Int32) (s : yb_S) (out : (Int32 × yb_S)), r_X12_either a1 s = some out → Ct G yX12_either cX12_either 2 (Option.some .boolean) (yb_rm (129 + n)) [.ref (yb_ad G 176), .int a1] (yb_mk s X) (yb_qi X out.2 out.1)) (H_X12_test : ∀ (a1 : Int32) (s : yb_S) (out : (Int32 × yb_S)), r_X12_test a1 s = some out → Ct G yX12_test cX12_test 3 (Option.some .boolean) (yb_rm (129 + n)) [.ref (yb_ad G 176), .int a1] (yb_mk s X) (yb_qi X out.2 out.1)) {s : yb_S} (h : l_X12_either_10 r_X12_each r_X12_either r_X12_test x1 yb_N s = some out) : Rn G RX12 cX12_either 2 (Option.some .boolean) false (yb_rm (130 + n)) (yb_qi X out.2 out.1) 0 0 10 [some (.ref (yb_ad G 176)), some (.int x1)] [] (yb_mk s X) := t_l_X12_either_10 H_X12_each H_X12_either H_X12_test _ _ h
set_option maxHeartbeats 4000000 in
set_option maxRecDepth 20000 in
theorem t_X12_either {G : yb_G} {X : List (FieldType × Nat)} {r_X12_each : (Int32 → yb_S → Option (Int32 × yb_S))} {r_X12_either : (Int32 → yb_S → Option (Int32 × yb_S))} {r_X12_test : (Int32 → yb_S → Option (Int32 × yb_S))} {n : Nat} {a1 : Int32} {s : yb_S} {out : (Int32 × yb_S)} (H_X12_each : ∀ (a1 : Int32) (s : yb_S) (out : (Int32 × yb_S)), r_X12_each a1 s = some out → Ct G yX12_each cX12_each 2 (Option.some .boolean) (yb_rm (129 + n)) [.ref (yb_ad G 176), .int a1] (yb_mk s X) (yb_qi X out.2 out.1)) (H_X12_either : ∀ (a1 : Int32) (s : yb_S) (out : (Int32 × yb_S)), r_X12_either a1 s = some out → Ct G yX12_either cX12_either 2 (Option.some .boolean) (yb_rm (129 + n)) [.ref (yb_ad G 176), .int a1] (yb_mk s X) (yb_qi X out.2 out.1)) (H_X12_test : ∀ (a1 : Int32) (s : yb_S) (out : (Int32 × yb_S)), r_X12_test a1 s = some out → Ct G yX12_test cX12_test 3 (Option.some .boolean) (yb_rm (129 + n)) [.ref (yb_ad G 176), .int a1] (yb_mk s X) (yb_qi X out.2 out.1)) (h : f_X12_either r_X12_each r_X12_either r_X12_test a1 s = some out) : Ct G yX12_either cX12_either 2 (Option.some .boolean) (yb_rm (130 + n)) [.ref (yb_ad G 176), .int a1] (yb_mk s X) (yb_qi X out.2 out.1) := by
  refine Ct.of (own := RX12) (ini := false) (vs := [some (.ref (yb_ad G 176)), some (.int a1)]) ⟨rfl, by decide +kernel⟩ (fun h => by cases h) (Nat.le_of_ble_eq_true rfl) rfl ?_
  unfold f_X12_either at h
  refine n_aload_n (i := 0) dX12_either_0 rfl rfl ?_
  refine n_iload_n (i := 1) dX12_either_1 rfl rfl ?_
  obtain ⟨q1, hq1, h⟩ := yb_bind h
  refine p_callVi (As := [.int a1]) (H_X12_each a1 _ _ hq1) cv_X12_429 (sh_176 _ _) rfl rfl (Nat.le_of_ble_eq_true rfl) dX12_either_2 (yb_rok (by omega) (by decide)) ⟨rfl, rfl⟩ ⟨Nat.le_refl _, Nat.le_refl _⟩ (fun k2 => ?_)
  refine n_if_ne 10 dX12_either_5 (by decide) (fun c3 => ?_) (fun c3 => ?_)
  · have h := yb_ifn c3 h
    exact p_jump (tl_X12_either_10 H_X12_each H_X12_either H_X12_test h) (And.intro rfl (And.intro rfl trivial))
  · have h := yb_ifp c3 h
    refine n_iconst (0 : Int32) dX12_either_8 ic_0 ?_
    cases h
    exact n_iret dX12_either_9 rfl (by decide) (Nat.le_refl _) (Nat.le_refl _) ⟨rfl, rfl⟩
set_option maxHeartbeats 4000000 in
set_option maxRecDepth 20000 in
theorem tj_X12_test_152 {G : yb_G} {X : List (FieldType × Nat)} {r_X12_each : (Int32 → yb_S → Option (Int32 × yb_S))} {r_X12_either : (Int32 → yb_S → Option (Int32 × yb_S))} {r_X12_test : (Int32 → yb_S → Option (Int32 × yb_S))} {n : Nat} {x1 : Int32} {s : yb_S} {out : (Int32 × yb_S)} (H_X12_each : ∀ (a1 : Int32) (s : yb_S) (out : (Int32 × yb_S)), r_X12_each a1 s = some out → Ct G yX12_each cX12_each 2 (Option.some .boolean) (yb_rm (129 + n)) [.ref (yb_ad G 176), .int a1] (yb_mk s X) (yb_qi X out.2 out.1)) (H_X12_either : ∀ (a1 : Int32) (s : yb_S) (out : (Int32 × yb_S)), r_X12_either a1 s = some out → Ct G yX12_either cX12_either 2 (Option.some .boolean) (yb_rm (129 + n)) [.ref (yb_ad G 176), .int a1] (yb_mk s X) (yb_qi X out.2 out.1)) (H_X12_test : ∀ (a1 : Int32) (s : yb_S) (out : (Int32 × yb_S)), r_X12_test a1 s = some out → Ct G yX12_test cX12_test 3 (Option.some .boolean) (yb_rm (129 + n)) [.ref (yb_ad G 176), .int a1] (yb_mk s X) (yb_qi X out.2 out.1)) (h : j_X12_test_152 r_X12_each r_X12_either r_X12_test x1 s = some out) : Rn G RX12 cX12_test 3 (Option.some .boolean) false (yb_rm (130 + n)) (yb_qi X out.2 out.1) 0 0 152 [some (.ref (yb_ad G 176)), some (.int x1), none] [] (yb_mk s X) := by
  unfold j_X12_test_152 at h
  refine n_aload_n (i := 0) dX12_test_152 rfl rfl ?_
  refine p_getr fl_X12_119 (sh_176 _ _) rfl (rR_176_43 _ _) dX12_test_153 ?_
  refine n_aload_n (i := 0) dX12_test_156 rfl rfl ?_
  refine p_geti fl_X12_350 (sh_176 _ _) rfl dX12_test_157 ?_
  obtain ⟨v13, hv13, h⟩ := yb_bind h
  refine p_bald hv13 (sh_242 _ _) dX12_test_160 ?_
  refine n_istore_n (i := 2) (vs' := [some (.ref (yb_ad G 176)), some (.int x1), some (.int v13)]) dX12_test_161 rfl (Nat.le_of_ble_eq_true rfl) rfl rfl ?_
  refine n_aload_n (i := 0) dX12_test_162 rfl rfl ?_
  obtain ⟨q14, hq14, h⟩ := yb_bind h
  refine p_callVv (As := []) (t_X12_goesOn hq14) cv_X12_380 (sh_176 _ _) rfl rfl (Nat.le_of_ble_eq_true rfl) dX12_test_163 (yb_rok (by omega) (by decide)) ⟨rfl, rfl⟩ ⟨Nat.le_refl _, Nat.le_refl _⟩ (fun k15 => ?_)
  refine n_aload_n (i := 0) dX12_test_166 rfl rfl ?_
  refine n_iload_n (i := 1) dX12_test_167 rfl rfl ?_
  obtain ⟨q16, hq16, h⟩ := yb_bind h
  refine p_callVi (As := [.int x1]) (tt_X12_sum hq16) cv_X12_401 (sh_176 _ _) rfl rfl (Nat.le_of_ble_eq_true rfl) dX12_test_168 (yb_rok (by omega) (by decide)) ⟨rfl, rfl⟩ ⟨Nat.le_refl _, Nat.le_refl _⟩ (fun k17 => ?_)
  refine n_if_eq 187 dX12_test_171 (by decide) (fun c18 => ?_) (fun c18 => ?_)
  · have h := yb_ifp c18 h
    refine n_iconst (0 : Int32) dX12_test_187 ic_0 ?_
    cases h
    exact n_iret dX12_test_188 rfl (by decide) (Nat.le_refl _) (Nat.le_refl _) ⟨rfl, rfl⟩
  · have h := yb_ifn c18 h
    refine n_aload_n (i := 0) dX12_test_174 rfl rfl ?_
    refine n_iload_n (i := 2) dX12_test_175 rfl rfl ?_
    refine n_iconst (0 : Int32) dX12_test_176 ic_0 ?_
    obtain ⟨q19, hq19, h⟩ := yb_bind h
    refine p_callVi (As := [.int v13, .int (0 : Int32)]) (t_X12_puts hq19) cv_X12_406 (sh_176 _ _) rfl rfl (Nat.le_of_ble_eq_true rfl) dX12_test_177 (yb_rok (by omega) (by decide)) ⟨rfl, rfl⟩ ⟨Nat.le_refl _, Nat.le_refl _⟩ (fun k20 => ?_)
    refine n_if_eq 187 dX12_test_180 (by decide) (fun c21 => ?_) (fun c21 => ?_)
    · have h := yb_ifp c21 h
      refine n_iconst (0 : Int32) dX12_test_187 ic_0 ?_
      cases h
      exact n_iret dX12_test_188 rfl (by decide) (Nat.le_refl _) (Nat.le_refl _) ⟨rfl, rfl⟩
    · have h := yb_ifn c21 h
      refine n_iconst (1 : Int32) dX12_test_183 ic_1 ?_
      refine n_goto 188 dX12_test_184 (by decide) ?_
      cases h
      exact n_iret dX12_test_188 rfl (by decide) (Nat.le_refl _) (Nat.le_refl _) ⟨rfl, rfl⟩
set_option maxHeartbeats 4000000 in
set_option maxRecDepth 20000 in
theorem tj_X12_test_75 {G : yb_G} {X : List (FieldType × Nat)} {r_X12_each : (Int32 → yb_S → Option (Int32 × yb_S))} {r_X12_either : (Int32 → yb_S → Option (Int32 × yb_S))} {r_X12_test : (Int32 → yb_S → Option (Int32 × yb_S))} {n : Nat} {x1 : Int32} {y0 : Int32} {s : yb_S} {out : (Int32 × yb_S)} (H_X12_each : ∀ (a1 : Int32) (s : yb_S) (out : (Int32 × yb_S)), r_X12_each a1 s = some out → Ct G yX12_each cX12_each 2 (Option.some .boolean) (yb_rm (129 + n)) [.ref (yb_ad G 176), .int a1] (yb_mk s X) (yb_qi X out.2 out.1)) (H_X12_either : ∀ (a1 : Int32) (s : yb_S) (out : (Int32 × yb_S)), r_X12_either a1 s = some out → Ct G yX12_either cX12_either 2 (Option.some .boolean) (yb_rm (129 + n)) [.ref (yb_ad G 176), .int a1] (yb_mk s X) (yb_qi X out.2 out.1)) (H_X12_test : ∀ (a1 : Int32) (s : yb_S) (out : (Int32 × yb_S)), r_X12_test a1 s = some out → Ct G yX12_test cX12_test 3 (Option.some .boolean) (yb_rm (129 + n)) [.ref (yb_ad G 176), .int a1] (yb_mk s X) (yb_qi X out.2 out.1)) (h : j_X12_test_75 r_X12_each r_X12_either r_X12_test x1 y0 s = some out) : Rn G RX12 cX12_test 3 (Option.some .boolean) false (yb_rm (130 + n)) (yb_qi X out.2 out.1) 0 0 75 [some (.ref (yb_ad G 176)), some (.int x1), none] [.int y0, .ref (yb_ad G 176)] (yb_mk s X) := by
  unfold j_X12_test_75 at h
  obtain ⟨q31, hq31, h⟩ := yb_bind h
  refine p_callVi (As := [.int y0]) (t_X12_passes hq31) cv_X12_397 (sh_176 _ _) rfl rfl (Nat.le_of_ble_eq_true rfl) dX12_test_75 (yb_rok (by omega) (by decide)) ⟨rfl, rfl⟩ ⟨Nat.le_refl _, Nat.le_refl _⟩ (fun k32 => ?_)
  refine n_if_eq 108 dX12_test_78 (by decide) (fun c33 => ?_) (fun c33 => ?_)
  · have h := yb_ifp c33 h
    refine n_iconst (0 : Int32) dX12_test_108 ic_0 ?_
    cases h
    exact n_iret dX12_test_109 rfl (by decide) (Nat.le_refl _) (Nat.le_refl _) ⟨rfl, rfl⟩
  · have h := yb_ifn c33 h
    refine n_aload_n (i := 0) dX12_test_81 rfl rfl ?_
    refine n_iload_n (i := 1) dX12_test_82 rfl rfl ?_
    refine n_iconst (1 : Int32) dX12_test_83 ic_1 ?_
    refine n_iadd dX12_test_84 ?_
    obtain ⟨q34, hq34, h⟩ := yb_bind h
    refine p_callVi (As := [.int (x1 + (1 : Int32))]) (H_X12_either (x1 + (1 : Int32)) _ _ hq34) cv_X12_424 (sh_176 _ _) rfl rfl (Nat.le_of_ble_eq_true rfl) dX12_test_85 (yb_rok (by omega) (by decide)) ⟨rfl, rfl⟩ ⟨Nat.le_refl _, Nat.le_refl _⟩ (fun k35 => ?_)
    refine n_if_eq 108 dX12_test_88 (by decide) (fun c36 => ?_) (fun c36 => ?_)
    · have h := yb_ifp c36 h
      refine n_iconst (0 : Int32) dX12_test_108 ic_0 ?_
      cases h
      exact n_iret dX12_test_109 rfl (by decide) (Nat.le_refl _) (Nat.le_refl _) ⟨rfl, rfl⟩
    · have h := yb_ifn c36 h
      refine n_aload_n (i := 0) dX12_test_91 rfl rfl ?_
      refine n_aload_n (i := 0) dX12_test_92 rfl rfl ?_
      refine n_bipush (93 : Int32) dX12_test_93 bp_93 ?_
      obtain ⟨q37, hq37, h⟩ := yb_bind h
      refine p_callVi (As := [.int (93 : Int32)]) (t_X12_isSign hq37) cv_X12_394 (sh_176 _ _) rfl rfl (Nat.le_of_ble_eq_true rfl) dX12_test_95 (yb_rok (by omega) (by decide)) ⟨rfl, rfl⟩ ⟨Nat.le_refl _, Nat.le_refl _⟩ (fun k38 => ?_)
      obtain ⟨q39, hq39, h⟩ := yb_bind h
      refine p_callVi (As := [.int q37]) (t_X12_passes hq39) cv_X12_397 (sh_176 _ _) rfl rfl (Nat.le_of_ble_eq_true rfl) dX12_test_98 (yb_rok (by omega) (by decide)) ⟨rfl, rfl⟩ ⟨Nat.le_refl _, Nat.le_refl _⟩ (fun k40 => ?_)
      refine n_if_eq 108 dX12_test_101 (by decide) (fun c41 => ?_) (fun c41 => ?_)
      · have h := yb_ifp c41 h
        refine n_iconst (0 : Int32) dX12_test_108 ic_0 ?_
        cases h
        exact n_iret dX12_test_109 rfl (by decide) (Nat.le_refl _) (Nat.le_refl _) ⟨rfl, rfl⟩
      · have h := yb_ifn c41 h
        refine n_iconst (1 : Int32) dX12_test_104 ic_1 ?_
        refine n_goto 109 dX12_test_105 (by decide) ?_
        cases h
        exact n_iret dX12_test_109 rfl (by decide) (Nat.le_refl _) (Nat.le_refl _) ⟨rfl, rfl⟩
set_option maxHeartbeats 4000000 in
set_option maxRecDepth 20000 in
theorem tj_X12_test_22 {G : yb_G} {X : List (FieldType × Nat)} {r_X12_each : (Int32 → yb_S → Option (Int32 × yb_S))} {r_X12_either : (Int32 → yb_S → Option (Int32 × yb_S))} {r_X12_test : (Int32 → yb_S → Option (Int32 × yb_S))} {n : Nat} {x1 : Int32} {y0 : Int32} {s : yb_S} {out : (Int32 × yb_S)} (H_X12_each : ∀ (a1 : Int32) (s : yb_S) (out : (Int32 × yb_S)), r_X12_each a1 s = some out → Ct G yX12_each cX12_each 2 (Option.some .boolean) (yb_rm (129 + n)) [.ref (yb_ad G 176), .int a1] (yb_mk s X) (yb_qi X out.2 out.1)) (H_X12_either : ∀ (a1 : Int32) (s : yb_S) (out : (Int32 × yb_S)), r_X12_either a1 s = some out → Ct G yX12_either cX12_either 2 (Option.some .boolean) (yb_rm (129 + n)) [.ref (yb_ad G 176), .int a1] (yb_mk s X) (yb_qi X out.2 out.1)) (H_X12_test : ∀ (a1 : Int32) (s : yb_S) (out : (Int32 × yb_S)), r_X12_test a1 s = some out → Ct G yX12_test cX12_test 3 (Option.some .boolean) (yb_rm (129 + n)) [.ref (yb_ad G 176), .int a1] (yb_mk s X) (yb_qi X out.2 out.1)) (h : j_X12_test_22 r_X12_each r_X12_either r_X12_test x1 y0 s = some out) : Rn G RX12 cX12_test 3 (Option.some .boolean) false (yb_rm (130 + n)) (yb_qi X out.2 out.1) 0 0 22 [some (.ref (yb_ad G 176)), some (.int x1), none] [.int y0, .ref (yb_ad G 176)] (yb_mk s X) := by
  unfold j_X12_test_22 at h
  obtain ⟨q43, hq43, h⟩ := yb_bind h
  refine p_callVi (As := [.int y0]) (t_X12_passes hq43) cv_X12_397 (sh_176 _ _) rfl rfl (Nat.le_of_ble_eq_true rfl) dX12_test_22 (yb_rok (by omega) (by decide)) ⟨rfl, rfl⟩ ⟨Nat.le_refl _, Nat.le_refl _⟩ (fun k44 => ?_)
  refine n_if_eq 52 dX12_test_25 (by decide) (fun c45 => ?_) (fun c45 => ?_)
  · have h := yb_ifp c45 h
    refine n_iconst (0 : Int32) dX12_test_52 ic_0 ?_
    cases h
    exact n_iret dX12_test_53 rfl (by decide) (Nat.le_refl _) (Nat.le_refl _) ⟨rfl, rfl⟩
  · have h := yb_ifn c45 h
    refine n_aload_n (i := 0) dX12_test_28 rfl rfl ?_
    refine n_iload_n (i := 1) dX12_test_29 rfl rfl ?_
    refine n_iconst (1 : Int32) dX12_test_30 ic_1 ?_
    refine n_iadd dX12_test_31 ?_
    obtain ⟨q46, hq46, h⟩ := yb_bind h
    refine p_callVi (As := [.int (x1 + (1 : Int32))]) (H_X12_test (x1 + (1 : Int32)) _ _ hq46) cv_X12_421 (sh_176 _ _) rfl rfl (Nat.le_of_ble_eq_true rfl) dX12_test_32 (yb_rok (by omega) (by decide)) ⟨rfl, rfl⟩ ⟨Nat.le_refl _, Nat.le_refl _⟩ (fun k47 => ?_)
    refine n_if_eq 52 dX12_test_35 (by decide) (fun c48 => ?_) (fun c48 => ?_)
    · have h := yb_ifp c48 h
      refine n_iconst (0 : Int32) dX12_test_52 ic_0 ?_
      cases h
      exact n_iret dX12_test_53 rfl (by decide) (Nat.le_refl _) (Nat.le_refl _) ⟨rfl, rfl⟩
    · have h := yb_ifn c48 h
      refine n_aload_n (i := 0) dX12_test_38 rfl rfl ?_
      refine n_bipush (33 : Int32) dX12_test_39 bp_33 ?_
      refine n_iconst (0 : Int32) dX12_test_41 ic_0 ?_
      obtain ⟨q49, hq49, h⟩ := yb_bind h
      refine p_callVi (As := [.int (33 : Int32), .int (0 : Int32)]) (t_X12_puts hq49) cv_X12_406 (sh_176 _ _) rfl rfl (Nat.le_of_ble_eq_true rfl) dX12_test_42 (yb_rok (by omega) (by decide)) ⟨rfl, rfl⟩ ⟨Nat.le_refl _, Nat.le_refl _⟩ (fun k50 => ?_)
      refine n_if_eq 52 dX12_test_45 (by decide) (fun c51 => ?_) (fun c51 => ?_)
      · have h := yb_ifp c51 h
        refine n_iconst (0 : Int32) dX12_test_52 ic_0 ?_
        cases h
        exact n_iret dX12_test_53 rfl (by decide) (Nat.le_refl _) (Nat.le_refl _) ⟨rfl, rfl⟩
      · have h := yb_ifn c51 h
        refine n_iconst (1 : Int32) dX12_test_48 ic_1 ?_
        refine n_goto 53 dX12_test_49 (by decide) ?_
        cases h
        exact n_iret dX12_test_53 rfl (by decide) (Nat.le_refl _) (Nat.le_refl _) ⟨rfl, rfl⟩
set_option maxHeartbeats 4000000 in
set_option maxRecDepth 20000 in
theorem t_X12_test {G : yb_G} {X : List (FieldType × Nat)} {r_X12_each : (Int32 → yb_S → Option (Int32 × yb_S))} {r_X12_either : (Int32 → yb_S → Option (Int32 × yb_S))} {r_X12_test : (Int32 → yb_S → Option (Int32 × yb_S))} {n : Nat} {a1 : Int32} {s : yb_S} {out : (Int32 × yb_S)} (H_X12_each : ∀ (a1 : Int32) (s : yb_S) (out : (Int32 × yb_S)), r_X12_each a1 s = some out → Ct G yX12_each cX12_each 2 (Option.some .boolean) (yb_rm (129 + n)) [.ref (yb_ad G 176), .int a1] (yb_mk s X) (yb_qi X out.2 out.1)) (H_X12_either : ∀ (a1 : Int32) (s : yb_S) (out : (Int32 × yb_S)), r_X12_either a1 s = some out → Ct G yX12_either cX12_either 2 (Option.some .boolean) (yb_rm (129 + n)) [.ref (yb_ad G 176), .int a1] (yb_mk s X) (yb_qi X out.2 out.1)) (H_X12_test : ∀ (a1 : Int32) (s : yb_S) (out : (Int32 × yb_S)), r_X12_test a1 s = some out → Ct G yX12_test cX12_test 3 (Option.some .boolean) (yb_rm (129 + n)) [.ref (yb_ad G 176), .int a1] (yb_mk s X) (yb_qi X out.2 out.1)) (h : f_X12_test r_X12_each r_X12_either r_X12_test a1 s = some out) : Ct G yX12_test cX12_test 3 (Option.some .boolean) (yb_rm (130 + n)) [.ref (yb_ad G 176), .int a1] (yb_mk s X) (yb_qi X out.2 out.1) := by
  refine Ct.of (own := RX12) (ini := false) (vs := [some (.ref (yb_ad G 176)), some (.int a1), none]) ⟨rfl, by decide +kernel⟩ (fun h => by cases h) (Nat.le_of_ble_eq_true rfl) rfl ?_
  unfold f_X12_test at h
  refine n_aload_n (i := 0) dX12_test_0 rfl rfl ?_
  refine n_ldcSw (i := 25) rfl dX12_test_1 ?_
  obtain ⟨q1, hq1, h⟩ := yb_bind h
  refine p_callVi (As := [.ref (yb_ad G 100025)]) (t_X12_isWord_str hq1) cv_X12_409 (sh_176 _ _) rfl rfl (Nat.le_of_ble_eq_true rfl) dX12_test_4 (yb_rok (by omega) (by decide)) ⟨rfl, rfl⟩ ⟨Nat.le_refl _, Nat.le_refl _⟩ (fun k2 => ?_)
  refine n_if_eq 54 dX12_test_7 (by decide) (fun c3 => ?_) (fun c3 => ?_)
  · have h := yb_ifp c3 h
    refine n_aload_n (i := 0) dX12_test_54 rfl rfl ?_
    refine n_bipush (91 : Int32) dX12_test_55 bp_91 ?_
    obtain ⟨q4, hq4, h⟩ := yb_bind h
    refine p_callVi (As := [.int (91 : Int32)]) (t_X12_isSign hq4) cv_X12_394 (sh_176 _ _) rfl rfl (Nat.le_of_ble_eq_true rfl) dX12_test_57 (yb_rok (by omega) (by decide)) ⟨rfl, rfl⟩ ⟨Nat.le_refl _, Nat.le_refl _⟩ (fun k5 => ?_)
    refine n_if_eq 110 dX12_test_60 (by decide) (fun c6 => ?_) (fun c6 => ?_)
    · have h := yb_ifp c6 h
      refine n_aload_n (i := 0) dX12_test_110 rfl rfl ?_
      refine n_iload_n (i := 1) dX12_test_111 rfl rfl ?_
      obtain ⟨q7, hq7, h⟩ := yb_bind h
      refine p_callVi (As := [.int a1]) (tt_X12_sum hq7) cv_X12_401 (sh_176 _ _) rfl rfl (Nat.le_of_ble_eq_true rfl) dX12_test_112 (yb_rok (by omega) (by decide)) ⟨rfl, rfl⟩ ⟨Nat.le_refl _, Nat.le_refl _⟩ (fun k8 => ?_)
      refine n_if_ne 120 dX12_test_115 (by decide) (fun c9 => ?_) (fun c9 => ?_)
      · have h := yb_ifn c9 h
        refine n_aload_n (i := 0) dX12_test_120 rfl rfl ?_
        refine n_bipush (60 : Int32) dX12_test_121 bp_60 ?_
        obtain ⟨q10, hq10, h⟩ := yb_bind h
        refine p_callVi (As := [.int (60 : Int32)]) (t_X12_isSign hq10) cv_X12_394 (sh_176 _ _) rfl rfl (Nat.le_of_ble_eq_true rfl) dX12_test_123 (yb_rok (by omega) (by decide)) ⟨rfl, rfl⟩ ⟨Nat.le_refl _, Nat.le_refl _⟩ (fun k11 => ?_)
        refine n_if_ne 152 dX12_test_126 (by decide) (fun c12 => ?_) (fun c12 => ?_)
        · have h := yb_ifn c12 h
          exact p_jump (tj_X12_test_152 H_X12_each H_X12_either H_X12_test h) (And.intro rfl (And.intro rfl trivial))
        · have h := yb_ifp c12 h
          refine n_aload_n (i := 0) dX12_test_129 rfl rfl ?_
          refine n_bipush (62 : Int32) dX12_test_130 bp_62 ?_
          obtain ⟨q22, hq22, h⟩ := yb_bind h
          refine p_callVi (As := [.int (62 : Int32)]) (t_X12_isSign hq22) cv_X12_394 (sh_176 _ _) rfl rfl (Nat.le_of_ble_eq_true rfl) dX12_test_132 (yb_rok (by omega) (by decide)) ⟨rfl, rfl⟩ ⟨Nat.le_refl _, Nat.le_refl _⟩ (fun k23 => ?_)
          refine n_if_ne 152 dX12_test_135 (by decide) (fun c24 => ?_) (fun c24 => ?_)
          · have h := yb_ifn c24 h
            exact p_jump (tj_X12_test_152 H_X12_each H_X12_either H_X12_test h) (And.intro rfl (And.intro rfl trivial))
          · have h := yb_ifp c24 h
            refine n_aload_n (i := 0) dX12_test_138 rfl rfl ?_
            refine n_bipush (61 : Int32) dX12_test_139 bp_61 ?_
            obtain ⟨q25, hq25, h⟩ := yb_bind h
            refine p_callVi (As := [.int (61 : Int32)]) (t_X12_isSign hq25) cv_X12_394 (sh_176 _ _) rfl rfl (Nat.le_of_ble_eq_true rfl) dX12_test_141 (yb_rok (by omega) (by decide)) ⟨rfl, rfl⟩ ⟨Nat.le_refl _, Nat.le_refl _⟩ (fun k26 => ?_)
            refine n_if_ne 152 dX12_test_144 (by decide) (fun c27 => ?_) (fun c27 => ?_)
            · have h := yb_ifn c27 h
              exact p_jump (tj_X12_test_152 H_X12_each H_X12_either H_X12_test h) (And.intro rfl (And.intro rfl trivial))
            · have h := yb_ifp c27 h
              refine n_aload_n (i := 0) dX12_test_147 rfl rfl ?_
              obtain ⟨q28, hq28, h⟩ := yb_bind h
              refine p_callVi (As := []) (t_X12_fails hq28) cv_X12_376 (sh_176 _ _) rfl rfl (Nat.le_of_ble_eq_true rfl) dX12_test_148 (yb_rok (by omega) (by decide)) ⟨rfl, rfl⟩ ⟨Nat.le_refl _, Nat.le_refl _⟩ (fun k29 => ?_)
              cases h
              exact n_iret dX12_test_151 rfl (yb_okv_b k29) (Nat.le_refl _) (Nat.le_refl _) ⟨rfl, rfl⟩
      · have h := yb_ifp c9 h
        refine n_iconst (0 : Int32) dX12_test_118 ic_0 ?_
        cases h
        exact n_iret dX12_test_119 rfl (by decide) (Nat.le_refl _) (Nat.le_refl _) ⟨rfl, rfl⟩
    · have h := yb_ifn c6 h
      refine n_aload_n (i := 0) dX12_test_63 rfl rfl ?_
      refine n_iload_n (i := 1) dX12_test_64 rfl rfl ?_
      refine n_bipush (8 : Int32) dX12_test_65 bp_8 ?_
      refine n_icmp_ge 74 dX12_test_67 (by decide) (fun c30 => ?_) (fun c30 => ?_)
      · have h := yb_ifp c30 h
        refine n_iconst (0 : Int32) dX12_test_74 ic_0 ?_
        exact p_jump (tj_X12_test_75 H_X12_each H_X12_either H_X12_test h) (And.intro rfl (And.intro rfl trivial))
      · have h := yb_ifn c30 h
        refine n_iconst (1 : Int32) dX12_test_70 ic_1 ?_
        refine n_goto 75 dX12_test_71 (by decide) ?_
        exact p_jump (tj_X12_test_75 H_X12_each H_X12_either H_X12_test h) (And.intro rfl (And.intro rfl trivial))
  · have h := yb_ifn c3 h
    refine n_aload_n (i := 0) dX12_test_10 rfl rfl ?_
    refine n_iload_n (i := 1) dX12_test_11 rfl rfl ?_
    refine n_bipush (8 : Int32) dX12_test_12 bp_8 ?_
    refine n_icmp_ge 21 dX12_test_14 (by decide) (fun c42 => ?_) (fun c42 => ?_)
    · have h := yb_ifp c42 h
      refine n_iconst (0 : Int32) dX12_test_21 ic_0 ?_
      exact p_jump (tj_X12_test_22 H_X12_each H_X12_either H_X12_test h) (And.intro rfl (And.intro rfl trivial))
    · have h := yb_ifn c42 h
      refine n_iconst (1 : Int32) dX12_test_17 ic_1 ?_
      refine n_goto 22 dX12_test_18 (by decide) ?_
      exact p_jump (tj_X12_test_22 H_X12_each H_X12_either H_X12_test h) (And.intro rfl (And.intro rfl trivial))
set_option maxHeartbeats 4000000 in
set_option maxRecDepth 20000 in
theorem tg_X12_each (G : yb_G) (X : List (FieldType × Nat)) : ∀ n : Nat, (∀ (a1 : Int32) (s : yb_S) (out : (Int32 × yb_S)), (gg_X12_each n).1 a1 s = some out → Ct G yX12_each cX12_each 2 (Option.some .boolean) (yb_rm (129 + n)) [.ref (yb_ad G 176), .int a1] (yb_mk s X) (yb_qi X out.2 out.1)) ∧ (∀ (a1 : Int32) (s : yb_S) (out : (Int32 × yb_S)), (gg_X12_each n).2.1 a1 s = some out → Ct G yX12_either cX12_either 2 (Option.some .boolean) (yb_rm (129 + n)) [.ref (yb_ad G 176), .int a1] (yb_mk s X) (yb_qi X out.2 out.1)) ∧ (∀ (a1 : Int32) (s : yb_S) (out : (Int32 × yb_S)), (gg_X12_each n).2.2 a1 s = some out → Ct G yX12_test cX12_test 3 (Option.some .boolean) (yb_rm (129 + n)) [.ref (yb_ad G 176), .int a1] (yb_mk s X) (yb_qi X out.2 out.1)) := by
  intro n
  induction n with
  | zero => exact ⟨(fun _ _ _ h => by cases h), (fun _ _ _ h => by cases h), (fun _ _ _ h => by cases h)⟩
  | succ n ih =>
    obtain ⟨h0, h1, h2⟩ := ih
    rw [show 129 + (n + 1) = 130 + n from by omega]
    exact ⟨(fun a1 s out h => t_X12_each h0 h1 h2 h), (fun a1 s out h => t_X12_either h0 h1 h2 h), (fun a1 s out h => t_X12_test h0 h1 h2 h)⟩
set_option maxHeartbeats 4000000 in
set_option maxRecDepth 20000 in
theorem tt_X12_each {G : yb_G} {X : List (FieldType × Nat)} {a1 : Int32} {s : yb_S} {out : (Int32 × yb_S)} (h : g_X12_each a1 s = some out) : Ct G yX12_each cX12_each 2 (Option.some .boolean) (yb_rm 249) [.ref (yb_ad G 176), .int a1] (yb_mk s X) (yb_qi X out.2 out.1) := (tg_X12_each G X 120).1 a1 s out h
set_option maxHeartbeats 4000000 in
set_option maxRecDepth 20000 in
theorem tt_X12_either {G : yb_G} {X : List (FieldType × Nat)} {a1 : Int32} {s : yb_S} {out : (Int32 × yb_S)} (h : g_X12_either a1 s = some out) : Ct G yX12_either cX12_either 2 (Option.some .boolean) (yb_rm 249) [.ref (yb_ad G 176), .int a1] (yb_mk s X) (yb_qi X out.2 out.1) := (tg_X12_each G X 120).2.1 a1 s out h
set_option maxHeartbeats 4000000 in
set_option maxRecDepth 20000 in
theorem tt_X12_test {G : yb_G} {X : List (FieldType × Nat)} {a1 : Int32} {s : yb_S} {out : (Int32 × yb_S)} (h : g_X12_test a1 s = some out) : Ct G yX12_test cX12_test 3 (Option.some .boolean) (yb_rm 249) [.ref (yb_ad G 176), .int a1] (yb_mk s X) (yb_qi X out.2 out.1) := (tg_X12_each G X 120).2.2 a1 s out h
set_option maxHeartbeats 4000000 in
set_option maxRecDepth 20000 in
theorem tj_X12_clauses_108 {G : yb_G} {X : List (FieldType × Nat)} {s : yb_S} {out : (Int32 × yb_S)} (h : j_X12_clauses_108 s = some out) : Rn G RX12 cX12_clauses 2 (Option.some .boolean) false (yb_rm 250) (yb_qi X out.2 out.1) 0 0 108 [some (.ref (yb_ad G 176)), none] [] (yb_mk s X) := by
  unfold j_X12_clauses_108 at h
  refine n_aload_n (i := 0) dX12_clauses_108 rfl rfl ?_
  refine p_getr fl_X12_128 (sh_176 _ _) rfl (rR_176_51 _ _) dX12_clauses_109 ?_
  refine n_bipush (10 : Int32) dX12_clauses_112 bp_10 ?_
  obtain ⟨r12, hr12, h⟩ := yb_bind h
  refine p_aald hr12 (sh_321 _ _) (by decide) rfl (rF_321 _ _) dX12_clauses_114 ?_
  refine n_aload_n (i := 0) dX12_clauses_115 rfl rfl ?_
  refine p_geti fl_X12_383 (sh_176 _ _) rfl dX12_clauses_116 ?_
  refine n_aload_n (i := 0) dX12_clauses_119 rfl rfl ?_
  refine p_geti fl_X12_386 (sh_176 _ _) rfl dX12_clauses_120 ?_
  obtain ⟨s13, hs13, h⟩ := yb_bind h
  refine p_iast hs13 (shF_321 hr12 _ _) dX12_clauses_123 ?_
  refine n_aload_n (i := 0) dX12_clauses_124 rfl rfl ?_
  refine n_aload_n (i := 0) dX12_clauses_125 rfl rfl ?_
  refine n_bipush (59 : Int32) dX12_clauses_126 bp_59 ?_
  obtain ⟨q14, hq14, h⟩ := yb_bind h
  refine p_callVi (As := [.int (59 : Int32)]) (t_X12_isSign hq14) cv_X12_394 (sh_176 _ _) rfl rfl (Nat.le_of_ble_eq_true rfl) dX12_clauses_128 (yb_rok (Nat.le_of_ble_eq_true rfl) (by decide)) ⟨rfl, rfl⟩ ⟨Nat.le_refl _, Nat.le_refl _⟩ (fun k15 => ?_)
  obtain ⟨q16, hq16, h⟩ := yb_bind h
  refine p_callVi (As := [.int q14]) (t_X12_passes hq16) cv_X12_397 (sh_176 _ _) rfl rfl (Nat.le_of_ble_eq_true rfl) dX12_clauses_131 (yb_rok (Nat.le_of_ble_eq_true rfl) (by decide)) ⟨rfl, rfl⟩ ⟨Nat.le_refl _, Nat.le_refl _⟩ (fun k17 => ?_)
  cases h
  exact n_iret dX12_clauses_134 rfl (yb_okv_b k17) (Nat.le_refl _) (Nat.le_refl _) ⟨rfl, rfl⟩
set_option maxHeartbeats 4000000 in
set_option maxRecDepth 20000 in
theorem tj_X12_clauses_66 {G : yb_G} {X : List (FieldType × Nat)} {y0 : Int32} {s : yb_S} {out : (Int32 × yb_S)} (h : j_X12_clauses_66 y0 s = some out) : Rn G RX12 cX12_clauses 2 (Option.some .boolean) false (yb_rm 250) (yb_qi X out.2 out.1) 0 0 66 [some (.ref (yb_ad G 176)), none] [.int y0, .ref (yb_ad G 176)] (yb_mk s X) := by
  unfold j_X12_clauses_66 at h
  obtain ⟨q4, hq4, h⟩ := yb_bind h
  refine p_callVi (As := [.int y0]) (t_X12_passes hq4) cv_X12_397 (sh_176 _ _) rfl rfl (Nat.le_of_ble_eq_true rfl) dX12_clauses_66 (yb_rok (Nat.le_of_ble_eq_true rfl) (by decide)) ⟨rfl, rfl⟩ ⟨Nat.le_refl _, Nat.le_refl _⟩ (fun k5 => ?_)
  refine n_if_ne 74 dX12_clauses_69 (by decide) (fun c6 => ?_) (fun c6 => ?_)
  · have h := yb_ifn c6 h
    refine n_aload_n (i := 0) dX12_clauses_74 rfl rfl ?_
    refine n_iconst (0 : Int32) dX12_clauses_75 ic_0 ?_
    obtain ⟨s7, hs7, h⟩ := yb_bind h
    refine p_puti hs7 fp_X12_386 (sh_176 _ _) rfl rfl rfl dX12_clauses_76 ?_
    refine n_aload_n (i := 0) dX12_clauses_79 rfl rfl ?_
    refine p_geti fl_X12_383 (sh_176 _ _) rfl dX12_clauses_80 ?_
    refine n_iconst (4 : Int32) dX12_clauses_83 ic_4 ?_
    refine n_icmp_ge 98 dX12_clauses_84 (by decide) (fun c8 => ?_) (fun c8 => ?_)
    · have h := yb_ifp c8 h
      refine n_aload_n (i := 0) dX12_clauses_98 rfl rfl ?_
      refine n_iconst (0 : Int32) dX12_clauses_99 ic_0 ?_
      obtain ⟨q9, hq9, h⟩ := yb_bind h
      refine p_callVi (As := [.int (0 : Int32)]) (tt_X12_either hq9) cv_X12_424 (sh_176 _ _) rfl rfl (Nat.le_of_ble_eq_true rfl) dX12_clauses_100 (yb_rok (Nat.le_of_ble_eq_true rfl) (by decide)) ⟨rfl, rfl⟩ ⟨Nat.le_refl _, Nat.le_refl _⟩ (fun k10 => ?_)
      refine n_if_ne 108 dX12_clauses_103 (by decide) (fun c11 => ?_) (fun c11 => ?_)
      · have h := yb_ifn c11 h
        exact p_jump (tj_X12_clauses_108 h) (And.intro rfl trivial)
      · have h := yb_ifp c11 h
        refine n_iconst (0 : Int32) dX12_clauses_106 ic_0 ?_
        cases h
        exact n_iret dX12_clauses_107 rfl (by decide) (Nat.le_refl _) (Nat.le_refl _) ⟨rfl, rfl⟩
    · have h := yb_ifn c8 h
      refine n_aload_n (i := 0) dX12_clauses_87 rfl rfl ?_
      refine n_iconst (0 : Int32) dX12_clauses_88 ic_0 ?_
      obtain ⟨q18, hq18, h⟩ := yb_bind h
      refine p_callVi (As := [.int (0 : Int32)]) (tt_X12_sum hq18) cv_X12_401 (sh_176 _ _) rfl rfl (Nat.le_of_ble_eq_true rfl) dX12_clauses_89 (yb_rok (Nat.le_of_ble_eq_true rfl) (by decide)) ⟨rfl, rfl⟩ ⟨Nat.le_refl _, Nat.le_refl _⟩ (fun k19 => ?_)
      refine n_if_ne 108 dX12_clauses_92 (by decide) (fun c20 => ?_) (fun c20 => ?_)
      · have h := yb_ifn c20 h
        exact p_jump (tj_X12_clauses_108 h) (And.intro rfl trivial)
      · have h := yb_ifp c20 h
        refine n_goto 106 dX12_clauses_95 (by decide) ?_
        refine n_iconst (0 : Int32) dX12_clauses_106 ic_0 ?_
        cases h
        exact n_iret dX12_clauses_107 rfl (by decide) (Nat.le_refl _) (Nat.le_refl _) ⟨rfl, rfl⟩
  · have h := yb_ifp c6 h
    refine n_iconst (0 : Int32) dX12_clauses_72 ic_0 ?_
    cases h
    exact n_iret dX12_clauses_73 rfl (by decide) (Nat.le_refl _) (Nat.le_refl _) ⟨rfl, rfl⟩
set_option maxHeartbeats 4000000 in
set_option maxRecDepth 20000 in
theorem tj_X12_clauses_65 {G : yb_G} {X : List (FieldType × Nat)} {s : yb_S} {out : (Int32 × yb_S)} (h : j_X12_clauses_65 s = some out) : Rn G RX12 cX12_clauses 2 (Option.some .boolean) false (yb_rm 250) (yb_qi X out.2 out.1) 0 0 65 [some (.ref (yb_ad G 176)), none] [.ref (yb_ad G 176)] (yb_mk s X) := by
  unfold j_X12_clauses_65 at h
  refine n_iconst (0 : Int32) dX12_clauses_65 ic_0 ?_
  exact p_jump (tj_X12_clauses_66 h) (And.intro rfl trivial)
set_option maxHeartbeats 4000000 in
set_option maxRecDepth 20000 in
theorem tj_X12_clauses_31 {G : yb_G} {X : List (FieldType × Nat)} {rc7 : (Int32 → yb_S → Option (Int32 × yb_S))} {x1 : Int32} {s : yb_S} {out : (Int32 × yb_S)} (hrc7 : ∀ (x1' : Int32) (s' : yb_S), rc7 x1' s' = some out → Rn G RX12 cX12_clauses 2 (Option.some .boolean) false (yb_rm 250) (yb_qi X out.2 out.1) 0 0 7 [some (.ref (yb_ad G 176)), some (.int x1')] [] (yb_mk s' X)) (h : j_X12_clauses_31 rc7 x1 s = some out) : Rn G RX12 cX12_clauses 2 (Option.some .boolean) false (yb_rm 250) (yb_qi X out.2 out.1) 0 0 31 [some (.ref (yb_ad G 176)), some (.int x1)] [] (yb_mk s X) := by
  unfold j_X12_clauses_31 at h
  refine n_iinc (vs' := [some (.ref (yb_ad G 176)), some (.int (x1 + (1 : Int32)))]) dX12_clauses_31 rfl (ii_1 _) (Nat.le_of_ble_eq_true rfl) rfl rfl ?_
  refine n_goto 7 dX12_clauses_34 (by decide) ?_
  exact p_jump (hrc7 (x1 + (1 : Int32)) s h) (And.intro rfl (And.intro rfl trivial))
set_option maxHeartbeats 4000000 in
set_option maxRecDepth 20000 in
theorem t_l_X12_clauses_7 {G : yb_G} {X : List (FieldType × Nat)} {out : (Int32 × yb_S)} : ∀ (k0 : Nat) (x1 : Int32) (s : yb_S), l_X12_clauses_7 k0 x1 s = some out → Rn G RX12 cX12_clauses 2 (Option.some .boolean) false (yb_rm 250) (yb_qi X out.2 out.1) 0 0 7 [some (.ref (yb_ad G 176)), some (.int x1)] [] (yb_mk s X) := by
  intro k0
  induction k0 with
  | zero => intro x1 s h; cases h
  | succ k0 ih =>
    intro x1 s h
    have h : f_X12_clauses_7 (fun x1 s => l_X12_clauses_7 k0 x1 s) x1 s = some out := h
    have hrc7 := ih
    unfold f_X12_clauses_7 at h
    refine n_iload_n (i := 1) dX12_clauses_7 rfl rfl ?_
    refine n_bipush (6 : Int32) dX12_clauses_8 bp_6 ?_
    refine n_icmp_ge 37 dX12_clauses_10 (by decide) (fun c2 => ?_) (fun c2 => ?_)
    · have h := yb_ifp c2 h
      refine n_aload_n (i := 0) dX12_clauses_37 rfl rfl ?_
      refine n_aload_n (i := 0) dX12_clauses_38 rfl rfl ?_
      refine p_geti fl_X12_383 (sh_176 _ _) rfl dX12_clauses_39 ?_
      refine n_iconst (-1 : Int32) dX12_clauses_42 ic_m1 ?_
      refine n_icmp_eq 65 dX12_clauses_43 (by decide) (fun c3 => ?_) (fun c3 => ?_)
      · have h := yb_ifp c3 h
        exact p_jump (tj_X12_clauses_65 h) (And.intro rfl trivial)
      · have h := yb_ifn c3 h
        refine n_aload_n (i := 0) dX12_clauses_46 rfl rfl ?_
        refine p_getr fl_X12_128 (sh_176 _ _) rfl (rR_176_51 _ _) dX12_clauses_47 ?_
        refine n_bipush (10 : Int32) dX12_clauses_50 bp_10 ?_
        obtain ⟨r21, hr21, h⟩ := yb_bind h
        refine p_aald hr21 (sh_321 _ _) (by decide) rfl (rF_321 _ _) dX12_clauses_52 ?_
        refine n_aload_n (i := 0) dX12_clauses_53 rfl rfl ?_
        refine p_geti fl_X12_383 (sh_176 _ _) rfl dX12_clauses_54 ?_
        obtain ⟨v22, hv22, h⟩ := yb_bind h
        refine p_iald hv22 (shF_321 hr21 _ _) dX12_clauses_57 ?_
        refine n_if_ne 65 dX12_clauses_58 (by decide) (fun c23 => ?_) (fun c23 => ?_)
        · have h := yb_ifn c23 h
          exact p_jump (tj_X12_clauses_65 h) (And.intro rfl trivial)
        · have h := yb_ifp c23 h
          refine n_iconst (1 : Int32) dX12_clauses_61 ic_1 ?_
          refine n_goto 66 dX12_clauses_62 (by decide) ?_
          exact p_jump (tj_X12_clauses_66 h) (And.intro rfl trivial)
    · have h := yb_ifn c2 h
      refine n_aload_n (i := 0) dX12_clauses_13 rfl rfl ?_
      refine n_aload_n (i := 0) dX12_clauses_14 rfl rfl ?_
      refine p_getr fl_X12_151 (sh_176 _ _) rfl (rR_176_56 _ _) dX12_clauses_15 ?_
      refine n_iload_n (i := 1) dX12_clauses_18 rfl rfl ?_
      obtain ⟨r24, hr24, h⟩ := yb_bind h
      refine p_aald hr24 (sh_335 _ _) (by decide) rfl (rF_335 _ _) dX12_clauses_19 ?_
      obtain ⟨q25, hq25, h⟩ := yb_bind h
      refine p_callVi (As := [.ref (yb_ad G r24)]) (t_X12_isWord_str hq25) cv_X12_409 (sh_176 _ _) rfl rfl (Nat.le_of_ble_eq_true rfl) dX12_clauses_20 (yb_rok (Nat.le_of_ble_eq_true rfl) (by decide)) ⟨rfl, rfl⟩ ⟨Nat.le_refl _, Nat.le_refl _⟩ (fun k26 => ?_)
      refine n_if_eq 31 dX12_clauses_23 (by decide) (fun c27 => ?_) (fun c27 => ?_)
      · have h := yb_ifp c27 h
        exact p_jump (tj_X12_clauses_31 hrc7 h) (And.intro rfl (And.intro rfl trivial))
      · have h := yb_ifn c27 h
        refine n_aload_n (i := 0) dX12_clauses_26 rfl rfl ?_
        refine n_iload_n (i := 1) dX12_clauses_27 rfl rfl ?_
        obtain ⟨s28, hs28, h⟩ := yb_bind h
        refine p_puti hs28 fp_X12_383 (sh_176 _ _) rfl rfl rfl dX12_clauses_28 ?_
        exact p_jump (tj_X12_clauses_31 hrc7 h) (And.intro rfl (And.intro rfl trivial))
set_option maxHeartbeats 4000000 in
set_option maxRecDepth 20000 in
theorem tl_X12_clauses_7 {G : yb_G} {X : List (FieldType × Nat)} {out : (Int32 × yb_S)} {x1 : Int32} {s : yb_S} (h : l_X12_clauses_7 yb_N x1 s = some out) : Rn G RX12 cX12_clauses 2 (Option.some .boolean) false (yb_rm 250) (yb_qi X out.2 out.1) 0 0 7 [some (.ref (yb_ad G 176)), some (.int x1)] [] (yb_mk s X) := t_l_X12_clauses_7 _ _ _ h
set_option maxHeartbeats 4000000 in
set_option maxRecDepth 20000 in
theorem t_X12_clauses {G : yb_G} {X : List (FieldType × Nat)} {s : yb_S} {out : (Int32 × yb_S)} (h : f_X12_clauses s = some out) : Ct G yX12_clauses cX12_clauses 2 (Option.some .boolean) (yb_rm 250) [.ref (yb_ad G 176)] (yb_mk s X) (yb_qi X out.2 out.1) := by
  refine Ct.of (own := RX12) (ini := false) (vs := [some (.ref (yb_ad G 176)), none]) ⟨rfl, by decide +kernel⟩ (fun h => by cases h) (Nat.le_of_ble_eq_true rfl) rfl ?_
  unfold f_X12_clauses at h
  refine n_aload_n (i := 0) dX12_clauses_0 rfl rfl ?_
  refine n_iconst (-1 : Int32) dX12_clauses_1 ic_m1 ?_
  obtain ⟨s1, hs1, h⟩ := yb_bind h
  refine p_puti hs1 fp_X12_383 (sh_176 _ _) rfl rfl rfl dX12_clauses_2 ?_
  refine n_iconst (0 : Int32) dX12_clauses_5 ic_0 ?_
  refine n_istore_n (i := 1) (vs' := [some (.ref (yb_ad G 176)), some (.int (0 : Int32))]) dX12_clauses_6 rfl (Nat.le_of_ble_eq_true rfl) rfl rfl ?_
  exact p_jump (tl_X12_clauses_7 h) (And.intro rfl (And.intro rfl trivial))
set_option maxHeartbeats 4000000 in
set_option maxRecDepth 20000 in
theorem t_X12_count {G : yb_G} {X : List (FieldType × Nat)} {a1 : Int32} {s : yb_S} {out : Int32} (h : f_X12_count a1 s = some out) : Ct G yX12_count cX12_count 2 (Option.some .int) (yb_rm 2) [.ref (yb_ad G 176), .int a1] (yb_mk s X) (yb_qi X s out) := by
  refine Ct.of (own := RX12) (ini := false) (vs := [some (.ref (yb_ad G 176)), some (.int a1)]) ⟨rfl, by decide +kernel⟩ (fun h => by cases h) (Nat.le_of_ble_eq_true rfl) rfl ?_
  unfold f_X12_count at h
  refine n_iload_n (i := 1) dX12_count_0 rfl rfl ?_
  by_cases c1 : a1 = (0 : Int32)
  · have h := yb_ifp c1 h
    refine n_tableIn (off := 67) 68 dX12_count_1 (by rw [c1]; decide) (by rw [c1]; decide) (by rw [c1]; decide) (by decide) ?_
    refine n_aload_n (i := 0) dX12_count_68 rfl rfl ?_
    refine p_geti fl_X12_275 (sh_176 _ _) rfl dX12_count_69 ?_
    cases h
    exact n_iret dX12_count_72 rfl rfl (Nat.le_refl _) (Nat.le_refl _) ⟨rfl, rfl⟩
  · have h := yb_ifn c1 h
    by_cases c2 : a1 = (1 : Int32)
    · have h := yb_ifp c2 h
      refine n_tableIn (off := 72) 73 dX12_count_1 (by rw [c2]; decide) (by rw [c2]; decide) (by rw [c2]; decide) (by decide) ?_
      refine n_aload_n (i := 0) dX12_count_73 rfl rfl ?_
      refine p_geti fl_X12_244 (sh_176 _ _) rfl dX12_count_74 ?_
      cases h
      exact n_iret dX12_count_77 rfl rfl (Nat.le_refl _) (Nat.le_refl _) ⟨rfl, rfl⟩
    · have h := yb_ifn c2 h
      by_cases c3 : a1 = (2 : Int32)
      · have h := yb_ifp c3 h
        refine n_tableIn (off := 77) 78 dX12_count_1 (by rw [c3]; decide) (by rw [c3]; decide) (by rw [c3]; decide) (by decide) ?_
        refine n_aload_n (i := 0) dX12_count_78 rfl rfl ?_
        refine p_geti fl_X12_251 (sh_176 _ _) rfl dX12_count_79 ?_
        cases h
        exact n_iret dX12_count_82 rfl rfl (Nat.le_refl _) (Nat.le_refl _) ⟨rfl, rfl⟩
      · have h := yb_ifn c3 h
        by_cases c4 : a1 = (3 : Int32)
        · have h := yb_ifp c4 h
          refine n_tableIn (off := 82) 83 dX12_count_1 (by rw [c4]; decide) (by rw [c4]; decide) (by rw [c4]; decide) (by decide) ?_
          refine n_aload_n (i := 0) dX12_count_83 rfl rfl ?_
          refine p_geti fl_X12_254 (sh_176 _ _) rfl dX12_count_84 ?_
          cases h
          exact n_iret dX12_count_87 rfl rfl (Nat.le_refl _) (Nat.le_refl _) ⟨rfl, rfl⟩
        · have h := yb_ifn c4 h
          by_cases c5 : a1 = (4 : Int32)
          · have h := yb_ifp c5 h
            refine n_tableIn (off := 87) 88 dX12_count_1 (by rw [c5]; decide) (by rw [c5]; decide) (by rw [c5]; decide) (by decide) ?_
            refine n_aload_n (i := 0) dX12_count_88 rfl rfl ?_
            refine p_geti fl_X12_290 (sh_176 _ _) rfl dX12_count_89 ?_
            cases h
            exact n_iret dX12_count_92 rfl rfl (Nat.le_refl _) (Nat.le_refl _) ⟨rfl, rfl⟩
          · have h := yb_ifn c5 h
            by_cases c6 : a1 = (5 : Int32)
            · have h := yb_ifp c6 h
              refine n_tableIn (off := 92) 93 dX12_count_1 (by rw [c6]; decide) (by rw [c6]; decide) (by rw [c6]; decide) (by decide) ?_
              refine n_aload_n (i := 0) dX12_count_93 rfl rfl ?_
              refine p_geti fl_X12_440 (sh_176 _ _) rfl dX12_count_94 ?_
              cases h
              exact n_iret dX12_count_97 rfl rfl (Nat.le_refl _) (Nat.le_refl _) ⟨rfl, rfl⟩
            · have h := yb_ifn c6 h
              by_cases c7 : a1 = (6 : Int32)
              · have h := yb_ifp c7 h
                refine n_tableIn (off := 97) 98 dX12_count_1 (by rw [c7]; decide) (by rw [c7]; decide) (by rw [c7]; decide) (by decide) ?_
                refine n_aload_n (i := 0) dX12_count_98 rfl rfl ?_
                refine p_geti fl_X12_343 (sh_176 _ _) rfl dX12_count_99 ?_
                cases h
                exact n_iret dX12_count_102 rfl rfl (Nat.le_refl _) (Nat.le_refl _) ⟨rfl, rfl⟩
              · have h := yb_ifn c7 h
                by_cases c8 : a1 = (7 : Int32)
                · have h := yb_ifp c8 h
                  refine n_tableIn (off := 102) 103 dX12_count_1 (by rw [c8]; decide) (by rw [c8]; decide) (by rw [c8]; decide) (by decide) ?_
                  refine n_aload_n (i := 0) dX12_count_103 rfl rfl ?_
                  obtain ⟨q14, hq14, h⟩ := yb_bind h
                  refine p_callVi (As := []) (t_X12_hallHeads hq14) cv_X12_583 (sh_176 _ _) rfl rfl (Nat.le_of_ble_eq_true rfl) dX12_count_104 (yb_rok (Nat.le_of_ble_eq_true rfl) (by decide)) ⟨rfl, rfl⟩ ⟨Nat.le_refl _, Nat.le_refl _⟩ (fun k15 => ?_)
                  cases h
                  exact n_iret dX12_count_107 rfl rfl (Nat.le_refl _) (Nat.le_refl _) ⟨rfl, rfl⟩
                · have h := yb_ifn c8 h
                  by_cases c9 : a1 = (8 : Int32)
                  · have h := yb_ifp c9 h
                    refine n_tableIn (off := 107) 108 dX12_count_1 (by rw [c9]; decide) (by rw [c9]; decide) (by rw [c9]; decide) (by decide) ?_
                    refine n_aload_n (i := 0) dX12_count_108 rfl rfl ?_
                    refine p_geti fl_X12_272 (sh_176 _ _) rfl dX12_count_109 ?_
                    cases h
                    exact n_iret dX12_count_112 rfl rfl (Nat.le_refl _) (Nat.le_refl _) ⟨rfl, rfl⟩
                  · have h := yb_ifn c9 h
                    by_cases c10 : a1 = (9 : Int32)
                    · have h := yb_ifp c10 h
                      refine n_tableIn (off := 112) 113 dX12_count_1 (by rw [c10]; decide) (by rw [c10]; decide) (by rw [c10]; decide) (by decide) ?_
                      refine n_aload_n (i := 0) dX12_count_113 rfl rfl ?_
                      obtain ⟨q16, hq16, h⟩ := yb_bind h
                      refine p_callVi (As := []) (t_X12_hallHeads hq16) cv_X12_583 (sh_176 _ _) rfl rfl (Nat.le_of_ble_eq_true rfl) dX12_count_114 (yb_rok (Nat.le_of_ble_eq_true rfl) (by decide)) ⟨rfl, rfl⟩ ⟨Nat.le_refl _, Nat.le_refl _⟩ (fun k17 => ?_)
                      refine n_aload_n (i := 0) dX12_count_117 rfl rfl ?_
                      refine p_geti fl_X12_272 (sh_176 _ _) rfl dX12_count_118 ?_
                      refine n_icmp_le 136 dX12_count_121 (by decide) (fun c18 => ?_) (fun c18 => ?_)
                      · have h := yb_ifp c18 h
                        refine n_iconst (0 : Int32) dX12_count_136 ic_0 ?_
                        cases h
                        exact n_iret dX12_count_137 rfl rfl (Nat.le_refl _) (Nat.le_refl _) ⟨rfl, rfl⟩
                      · have h := yb_ifn c18 h
                        refine n_aload_n (i := 0) dX12_count_124 rfl rfl ?_
                        obtain ⟨q19, hq19, h⟩ := yb_bind h
                        refine p_callVi (As := []) (t_X12_hallHeads hq19) cv_X12_583 (sh_176 _ _) rfl rfl (Nat.le_of_ble_eq_true rfl) dX12_count_125 (yb_rok (Nat.le_of_ble_eq_true rfl) (by decide)) ⟨rfl, rfl⟩ ⟨Nat.le_refl _, Nat.le_refl _⟩ (fun k20 => ?_)
                        refine n_aload_n (i := 0) dX12_count_128 rfl rfl ?_
                        refine p_geti fl_X12_272 (sh_176 _ _) rfl dX12_count_129 ?_
                        refine n_isub dX12_count_132 ?_
                        refine n_goto 137 dX12_count_133 (by decide) ?_
                        cases h
                        exact n_iret dX12_count_137 rfl rfl (Nat.le_refl _) (Nat.le_refl _) ⟨rfl, rfl⟩
                    · have h := yb_ifn c10 h
                      by_cases c11 : a1 = (10 : Int32)
                      · have h := yb_ifp c11 h
                        refine n_tableIn (off := 137) 138 dX12_count_1 (by rw [c11]; decide) (by rw [c11]; decide) (by rw [c11]; decide) (by decide) ?_
                        refine n_aload_n (i := 0) dX12_count_138 rfl rfl ?_
                        refine p_geti fl_X12_573 (sh_176 _ _) rfl dX12_count_139 ?_
                        cases h
                        exact n_iret dX12_count_142 rfl rfl (Nat.le_refl _) (Nat.le_refl _) ⟨rfl, rfl⟩
                      · have h := yb_ifn c11 h
                        by_cases c12 : a1 = (11 : Int32)
                        · have h := yb_ifp c12 h
                          refine n_tableIn (off := 142) 143 dX12_count_1 (by rw [c12]; decide) (by rw [c12]; decide) (by rw [c12]; decide) (by decide) ?_
                          refine n_aload_n (i := 0) dX12_count_143 rfl rfl ?_
                          refine p_geti fl_X12_580 (sh_176 _ _) rfl dX12_count_144 ?_
                          cases h
                          exact n_iret dX12_count_147 rfl rfl (Nat.le_refl _) (Nat.le_refl _) ⟨rfl, rfl⟩
                        · have h := yb_ifn c12 h
                          by_cases c13 : a1 = (12 : Int32)
                          · have h := yb_ifp c13 h
                            refine n_tableIn (off := 147) 148 dX12_count_1 (by rw [c13]; decide) (by rw [c13]; decide) (by rw [c13]; decide) (by decide) ?_
                            refine n_aload_n (i := 0) dX12_count_148 rfl rfl ?_
                            refine p_geti fl_X12_328 (sh_176 _ _) rfl dX12_count_149 ?_
                            cases h
                            exact n_iret dX12_count_152 rfl rfl (Nat.le_refl _) (Nat.le_refl _) ⟨rfl, rfl⟩
                          · have h := yb_ifn c13 h
                            refine n_tableOut 153 dX12_count_1 (by have z0 := lv_neT c1 (a := 0) (by decide); have z1 := lv_neT c2 (a := 1) (by decide); have z2 := lv_neT c3 (a := 2) (by decide); have z3 := lv_neT c4 (a := 3) (by decide); have z4 := lv_neT c5 (a := 4) (by decide); have z5 := lv_neT c6 (a := 5) (by decide); have z6 := lv_neT c7 (a := 6) (by decide); have z7 := lv_neT c8 (a := 7) (by decide); have z8 := lv_neT c9 (a := 8) (by decide); have z9 := lv_neT c10 (a := 9) (by decide); have z10 := lv_neT c11 (a := 10) (by decide); have z11 := lv_neT c12 (a := 11) (by decide); have z12 := lv_neT c13 (a := 12) (by decide); omega) (by decide) ?_
                            refine n_iconst (-1 : Int32) dX12_count_153 ic_m1 ?_
                            cases h
                            exact n_iret dX12_count_154 rfl rfl (Nat.le_refl _) (Nat.le_refl _) ⟨rfl, rfl⟩
set_option maxHeartbeats 4000000 in
set_option maxRecDepth 20000 in
theorem t_X12_within {G : yb_G} {X : List (FieldType × Nat)} {a0 : Int32} {s : yb_S} {out : Int32} (h : f_X12_within a0 s = some out) : Ct G yX12_within cX12_within 1 (Option.some .int) (yb_rm 1) [.int a0] (yb_mk s X) (yb_qi X s out) := by
  refine Ct.of (own := RX12) (ini := false) (vs := [some (.int a0)]) ⟨rfl, by decide +kernel⟩ (fun h => by cases h) (Nat.le_of_ble_eq_true rfl) rfl ?_
  unfold f_X12_within at h
  refine n_iload_n (i := 0) dX12_within_0 rfl rfl ?_
  refine n_if_ge 8 dX12_within_1 (by decide) (fun c1 => ?_) (fun c1 => ?_)
  · have h := yb_ifp c1 h
    refine n_iload_n (i := 0) dX12_within_8 rfl rfl ?_
    refine n_ldcw (1000000 : Int32) k_X12_531 dX12_within_9 ?_
    refine n_icmp_le 21 dX12_within_12 (by decide) (fun c2 => ?_) (fun c2 => ?_)
    · have h := yb_ifp c2 h
      refine n_iload_n (i := 0) dX12_within_21 rfl rfl ?_
      cases h
      exact n_iret dX12_within_22 rfl rfl (Nat.le_refl _) (Nat.le_refl _) ⟨rfl, rfl⟩
    · have h := yb_ifn c2 h
      refine n_ldcw (1000000 : Int32) k_X12_531 dX12_within_15 ?_
      refine n_goto 22 dX12_within_18 (by decide) ?_
      cases h
      exact n_iret dX12_within_22 rfl rfl (Nat.le_refl _) (Nat.le_refl _) ⟨rfl, rfl⟩
  · have h := yb_ifn c1 h
    refine n_iconst (0 : Int32) dX12_within_4 ic_0 ?_
    refine n_goto 22 dX12_within_5 (by decide) ?_
    cases h
    exact n_iret dX12_within_22 rfl rfl (Nat.le_refl _) (Nat.le_refl _) ⟨rfl, rfl⟩
set_option maxHeartbeats 4000000 in
set_option maxRecDepth 20000 in
theorem tj_X12_day_273 {G : yb_G} {X : List (FieldType × Nat)} {rc110 : (Int32 → yb_S → Option yb_S)} {x1 : Int32} {s : yb_S} {out : yb_S} (hrc110 : ∀ (x1' : Int32) (s' : yb_S), rc110 x1' s' = some out → Rn G RX12 cX12_day 3 none false (yb_rm 8) (yb_qv X out) 0 0 110 [some (.ref (yb_ad G 176)), some (.int x1'), none] [] (yb_mk s' X)) (h : j_X12_day_273 rc110 x1 s = some out) : Rn G RX12 cX12_day 3 none false (yb_rm 8) (yb_qv X out) 0 0 273 [some (.ref (yb_ad G 176)), some (.int x1), none] [] (yb_mk s X) := by
  unfold j_X12_day_273 at h
  refine n_iinc (vs' := [some (.ref (yb_ad G 176)), some (.int (x1 + (1 : Int32))), none]) dX12_day_273 rfl (ii_1 _) (Nat.le_of_ble_eq_true rfl) rfl rfl ?_
  refine n_goto 110 dX12_day_276 (by decide) ?_
  exact p_jump (hrc110 (x1 + (1 : Int32)) s h) (And.intro rfl (And.intro rfl trivial))
set_option maxHeartbeats 4000000 in
set_option maxRecDepth 20000 in
theorem tj_X12_day_163 {G : yb_G} {X : List (FieldType × Nat)} {rc110 : (Int32 → yb_S → Option yb_S)} {x1 : Int32} {y0 : Int32} {y1 : Int32} {y2 : Nat} {s : yb_S} {out : yb_S} (hrc110 : ∀ (x1' : Int32) (s' : yb_S), rc110 x1' s' = some out → Rn G RX12 cX12_day 3 none false (yb_rm 8) (yb_qv X out) 0 0 110 [some (.ref (yb_ad G 176)), some (.int x1'), none] [] (yb_mk s' X)) {riy2 : Int32} (hy2 : yb_ri 367 1 24 riy2 = some y2) (h : j_X12_day_163 rc110 x1 y0 y1 y2 s = some out) : Rn G RX12 cX12_day 3 none false (yb_rm 8) (yb_qv X out) 0 0 163 [some (.ref (yb_ad G 176)), some (.int x1), none] [.int y0, .int y1, .ref (yb_ad G y2)] (yb_mk s X) := by
  unfold j_X12_day_163 at h
  obtain ⟨s12, hs12, h⟩ := yb_bind h
  refine p_iast hs12 (shF_366 hy2 _ _) dX12_day_163 ?_
  refine n_aload_n (i := 0) dX12_day_164 rfl rfl ?_
  refine p_getr fl_X12_208 (sh_176 _ _) rfl (rR_176_67 _ _) dX12_day_165 ?_
  refine n_aload_n (i := 0) dX12_day_168 rfl rfl ?_
  refine p_geti fl_X12_275 (sh_176 _ _) rfl dX12_day_169 ?_
  obtain ⟨r13, hr13, h⟩ := yb_bind h
  refine p_aald hr13 (sh_391 _ _) (by decide) rfl (rF_391 _ _) dX12_day_172 ?_
  refine n_aload_n (i := 0) dX12_day_173 rfl rfl ?_
  refine p_getr fl_X12_66 (sh_176 _ _) rfl (rR_176_22 _ _) dX12_day_174 ?_
  refine n_iload_n (i := 1) dX12_day_177 rfl rfl ?_
  obtain ⟨v14, hv14, h⟩ := yb_bind h
  refine p_iald hv14 (sh_195 _ _) dX12_day_178 ?_
  refine n_dup2 dX12_day_179 rfl rfl ?_
  obtain ⟨v15, hv15, h⟩ := yb_bind h
  refine p_lald hv15 (shF_391 hr13 _ _) dX12_day_180 ?_
  refine n_aload_n (i := 0) dX12_day_181 rfl rfl ?_
  refine p_getr fl_X12_48 (sh_176 _ _) rfl (rR_176_16 _ _) dX12_day_182 ?_
  refine n_iload_n (i := 1) dX12_day_185 rfl rfl ?_
  obtain ⟨v16, hv16, h⟩ := yb_bind h
  refine p_iald hv16 (sh_189 _ _) dX12_day_186 ?_
  refine n_i2l dX12_day_187 ?_
  refine n_ladd dX12_day_188 ?_
  obtain ⟨s17, hs17, h⟩ := yb_bind h
  refine p_last hs17 (shF_391 hr13 _ _) dX12_day_189 ?_
  refine n_aload_n (i := 0) dX12_day_190 rfl rfl ?_
  refine p_getr fl_X12_208 (sh_176 _ _) rfl (rR_176_67 _ _) dX12_day_191 ?_
  refine n_aload_n (i := 0) dX12_day_194 rfl rfl ?_
  refine p_geti fl_X12_275 (sh_176 _ _) rfl dX12_day_195 ?_
  obtain ⟨r18, hr18, h⟩ := yb_bind h
  refine p_aald hr18 (sh_391 _ _) (by decide) rfl (rF_391 _ _) dX12_day_198 ?_
  refine n_iconst (3 : Int32) dX12_day_199 ic_3 ?_
  refine n_dup2 dX12_day_200 rfl rfl ?_
  obtain ⟨v19, hv19, h⟩ := yb_bind h
  refine p_lald hv19 (shF_391 hr18 _ _) dX12_day_201 ?_
  refine n_aload_n (i := 0) dX12_day_202 rfl rfl ?_
  refine p_getr fl_X12_48 (sh_176 _ _) rfl (rR_176_16 _ _) dX12_day_203 ?_
  refine n_iload_n (i := 1) dX12_day_206 rfl rfl ?_
  obtain ⟨v20, hv20, h⟩ := yb_bind h
  refine p_iald hv20 (sh_189 _ _) dX12_day_207 ?_
  refine n_i2l dX12_day_208 ?_
  refine n_ladd dX12_day_209 ?_
  obtain ⟨s21, hs21, h⟩ := yb_bind h
  refine p_last hs21 (shF_391 hr18 _ _) dX12_day_210 ?_
  refine n_aload_n (i := 0) dX12_day_211 rfl rfl ?_
  refine n_iload_n (i := 1) dX12_day_212 rfl rfl ?_
  obtain ⟨q22, hq22, h⟩ := yb_bind h
  refine p_callVi (As := [.int x1]) (t_X12_isHoused hq22) cv_X12_287 (sh_176 _ _) rfl rfl (Nat.le_of_ble_eq_true rfl) dX12_day_213 (yb_rok (Nat.le_of_ble_eq_true rfl) (by decide)) ⟨rfl, rfl⟩ ⟨Nat.le_refl _, Nat.le_refl _⟩ (fun k23 => ?_)
  refine n_if_ne 222 dX12_day_216 (by decide) (fun c24 => ?_) (fun c24 => ?_)
  · have h := yb_ifn c24 h
    refine n_aload_n (i := 0) dX12_day_222 rfl rfl ?_
    refine n_iload_n (i := 1) dX12_day_223 rfl rfl ?_
    refine n_aload_n (i := 0) dX12_day_224 rfl rfl ?_
    refine p_getr fl_X12_69 (sh_176 _ _) rfl (rR_176_23 _ _) dX12_day_225 ?_
    refine n_iload_n (i := 1) dX12_day_228 rfl rfl ?_
    obtain ⟨v25, hv25, h⟩ := yb_bind h
    refine p_iald hv25 (sh_196 _ _) dX12_day_229 ?_
    obtain ⟨q26, hq26, h⟩ := yb_bind h
    refine p_callVv (As := [.int x1, .int v25]) (t_X12_asksOf_ hq26) cv_X12_503 (sh_176 _ _) rfl rfl (Nat.le_of_ble_eq_true rfl) dX12_day_230 (yb_rok (Nat.le_of_ble_eq_true rfl) (by decide)) ⟨rfl, rfl⟩ ⟨Nat.le_refl _, Nat.le_refl _⟩ (fun k27 => ?_)
    refine n_aload_n (i := 0) dX12_day_233 rfl rfl ?_
    refine n_iconst (3 : Int32) dX12_day_234 ic_3 ?_
    obtain ⟨q28, hq28, h⟩ := yb_bind h
    refine p_callVi (As := [.int (3 : Int32)]) (t_X12_tells hq28) cv_X12_482 (sh_176 _ _) rfl rfl (Nat.le_of_ble_eq_true rfl) dX12_day_235 (yb_rok (Nat.le_of_ble_eq_true rfl) (by decide)) ⟨rfl, rfl⟩ ⟨Nat.le_refl _, Nat.le_refl _⟩ (fun k29 => ?_)
    obtain ⟨q30, hq30, h⟩ := yb_bind h
    refine p_callSi (As := [.int q28.1]) (t_X12_within hq30) cs_X12_532 rfl rfl (Nat.le_of_ble_eq_true rfl) dX12_day_238 (yb_rok (Nat.le_of_ble_eq_true rfl) (by decide)) ⟨rfl, rfl⟩ ⟨Nat.le_refl _, Nat.le_refl _⟩ (fun k31 => ?_)
    refine n_istore_n (i := 2) (vs' := [some (.ref (yb_ad G 176)), some (.int x1), some (.int q30)]) dX12_day_241 rfl (Nat.le_of_ble_eq_true rfl) rfl rfl ?_
    refine n_aload_n (i := 0) dX12_day_242 rfl rfl ?_
    refine p_getr fl_X12_22 (sh_176 _ _) rfl (rR_176_4 _ _) dX12_day_243 ?_
    refine n_aload_n (i := 0) dX12_day_246 rfl rfl ?_
    refine n_iload_n (i := 1) dX12_day_247 rfl rfl ?_
    obtain ⟨q32, hq32, h⟩ := yb_bind h
    refine p_callVi (As := [.int x1]) (t_X12_townFor hq32) cv_X12_458 (sh_176 _ _) rfl rfl (Nat.le_of_ble_eq_true rfl) dX12_day_248 (yb_rok (Nat.le_of_ble_eq_true rfl) (by decide)) ⟨rfl, rfl⟩ ⟨Nat.le_refl _, Nat.le_refl _⟩ (fun k33 => ?_)
    refine n_dup2 dX12_day_251 rfl rfl ?_
    obtain ⟨v34, hv34, h⟩ := yb_bind h
    refine p_lald hv34 (sh_181 _ _) dX12_day_252 ?_
    refine n_iload_n (i := 2) dX12_day_253 rfl rfl ?_
    refine n_i2l dX12_day_254 ?_
    refine n_ladd dX12_day_255 ?_
    obtain ⟨s35, hs35, h⟩ := yb_bind h
    refine p_last hs35 (sh_181 _ _) dX12_day_256 ?_
    refine n_aload_n (i := 0) dX12_day_257 rfl rfl ?_
    refine p_getr fl_X12_208 (sh_176 _ _) rfl (rR_176_67 _ _) dX12_day_258 ?_
    refine n_aload_n (i := 0) dX12_day_261 rfl rfl ?_
    refine p_geti fl_X12_275 (sh_176 _ _) rfl dX12_day_262 ?_
    obtain ⟨r36, hr36, h⟩ := yb_bind h
    refine p_aald hr36 (sh_391 _ _) (by decide) rfl (rF_391 _ _) dX12_day_265 ?_
    refine n_iconst (4 : Int32) dX12_day_266 ic_4 ?_
    refine n_dup2 dX12_day_267 rfl rfl ?_
    obtain ⟨v37, hv37, h⟩ := yb_bind h
    refine p_lald hv37 (shF_391 hr36 _ _) dX12_day_268 ?_
    refine n_iload_n (i := 2) dX12_day_269 rfl rfl ?_
    refine n_i2l dX12_day_270 ?_
    refine n_ladd dX12_day_271 ?_
    obtain ⟨s38, hs38, h⟩ := yb_bind h
    refine p_last hs38 (shF_391 hr36 _ _) dX12_day_272 ?_
    exact p_jump (tj_X12_day_273 hrc110 h) (And.intro rfl (And.intro rfl trivial))
  · have h := yb_ifp c24 h
    refine n_goto 273 dX12_day_219 (by decide) ?_
    exact p_jump (tj_X12_day_273 hrc110 h) (And.intro rfl (And.intro rfl trivial))
set_option maxHeartbeats 4000000 in
set_option maxRecDepth 20000 in
theorem t_l_X12_day_110 {G : yb_G} {X : List (FieldType × Nat)} {out : yb_S} : ∀ (k0 : Nat) (x1 : Int32) (s : yb_S), l_X12_day_110 k0 x1 s = some out → Rn G RX12 cX12_day 3 none false (yb_rm 8) (yb_qv X out) 0 0 110 [some (.ref (yb_ad G 176)), some (.int x1), none] [] (yb_mk s X) := by
  intro k0
  induction k0 with
  | zero => intro x1 s h; cases h
  | succ k0 ih =>
    intro x1 s h
    have h : f_X12_day_110 (fun x1 s => l_X12_day_110 k0 x1 s) x1 s = some out := h
    have hrc110 := ih
    unfold f_X12_day_110 at h
    refine n_iload_n (i := 1) dX12_day_110 rfl rfl ?_
    refine n_aload_n (i := 0) dX12_day_111 rfl rfl ?_
    refine p_geti fl_X12_254 (sh_176 _ _) rfl dX12_day_112 ?_
    refine n_icmp_ge 279 dX12_day_115 (by decide) (fun c4 => ?_) (fun c4 => ?_)
    · have h := yb_ifp c4 h
      refine n_aload_n (i := 0) dX12_day_279 rfl rfl ?_
      refine n_dup dX12_day_280 rfl ?_
      refine p_geti fl_X12_275 (sh_176 _ _) rfl dX12_day_281 ?_
      refine n_iconst (1 : Int32) dX12_day_284 ic_1 ?_
      refine n_iadd dX12_day_285 ?_
      obtain ⟨s5, hs5, h⟩ := yb_bind h
      refine p_puti hs5 fp_X12_275 (sh_176 _ _) rfl rfl rfl dX12_day_286 ?_
      cases h
      exact n_vret dX12_day_289 rfl (Nat.le_refl _) (Nat.le_refl _) ⟨rfl, rfl⟩
    · have h := yb_ifn c4 h
      refine n_aload_n (i := 0) dX12_day_118 rfl rfl ?_
      refine p_getr fl_X12_203 (sh_176 _ _) rfl (rR_176_66 _ _) dX12_day_119 ?_
      refine n_iload_n (i := 1) dX12_day_122 rfl rfl ?_
      obtain ⟨r6, hr6, h⟩ := yb_bind h
      refine p_aald hr6 (sh_366 _ _) (by decide) rfl (rF_366 _ _) dX12_day_123 ?_
      refine n_aload_n (i := 0) dX12_day_124 rfl rfl ?_
      refine p_geti fl_X12_275 (sh_176 _ _) rfl dX12_day_125 ?_
      refine n_aload_n (i := 0) dX12_day_128 rfl rfl ?_
      refine p_getr fl_X12_66 (sh_176 _ _) rfl (rR_176_22 _ _) dX12_day_129 ?_
      refine n_iload_n (i := 1) dX12_day_132 rfl rfl ?_
      obtain ⟨v7, hv7, h⟩ := yb_bind h
      refine p_iald hv7 (sh_195 _ _) dX12_day_133 ?_
      refine n_if_ne 142 dX12_day_134 (by decide) (fun c8 => ?_) (fun c8 => ?_)
      · have h := yb_ifn c8 h
        refine n_aload_n (i := 0) dX12_day_142 rfl rfl ?_
        refine p_getr fl_X12_66 (sh_176 _ _) rfl (rR_176_22 _ _) dX12_day_143 ?_
        refine n_iload_n (i := 1) dX12_day_146 rfl rfl ?_
        obtain ⟨v9, hv9, h⟩ := yb_bind h
        refine p_iald hv9 (sh_195 _ _) dX12_day_147 ?_
        refine n_iconst (2 : Int32) dX12_day_148 ic_2 ?_
        refine n_icmp_ne 157 dX12_day_149 (by decide) (fun c10 => ?_) (fun c10 => ?_)
        · have h := yb_ifn c10 h
          refine n_aload_n (i := 0) dX12_day_157 rfl rfl ?_
          refine p_getr fl_X12_69 (sh_176 _ _) rfl (rR_176_23 _ _) dX12_day_158 ?_
          refine n_iload_n (i := 1) dX12_day_161 rfl rfl ?_
          obtain ⟨v11, hv11, h⟩ := yb_bind h
          refine p_iald hv11 (sh_196 _ _) dX12_day_162 ?_
          exact p_jump (tj_X12_day_163 hrc110 hr6 h) (And.intro rfl (And.intro rfl trivial))
        · have h := yb_ifp c10 h
          refine n_bipush (101 : Int32) dX12_day_152 bp_101 ?_
          refine n_goto 163 dX12_day_154 (by decide) ?_
          exact p_jump (tj_X12_day_163 hrc110 hr6 h) (And.intro rfl (And.intro rfl trivial))
      · have h := yb_ifp c8 h
        refine n_bipush (100 : Int32) dX12_day_137 bp_100 ?_
        refine n_goto 163 dX12_day_139 (by decide) ?_
        exact p_jump (tj_X12_day_163 hrc110 hr6 h) (And.intro rfl (And.intro rfl trivial))
set_option maxHeartbeats 4000000 in
set_option maxRecDepth 20000 in
theorem tl_X12_day_110 {G : yb_G} {X : List (FieldType × Nat)} {out : yb_S} {x1 : Int32} {s : yb_S} (h : l_X12_day_110 yb_N x1 s = some out) : Rn G RX12 cX12_day 3 none false (yb_rm 8) (yb_qv X out) 0 0 110 [some (.ref (yb_ad G 176)), some (.int x1), none] [] (yb_mk s X) := t_l_X12_day_110 _ _ _ h
set_option maxHeartbeats 4000000 in
set_option maxRecDepth 20000 in
theorem t_l_X12_day_85 {G : yb_G} {X : List (FieldType × Nat)} {out : yb_S} : ∀ (k0 : Nat) (x1 : Int32) (s : yb_S), l_X12_day_85 k0 x1 s = some out → Rn G RX12 cX12_day 3 none false (yb_rm 8) (yb_qv X out) 0 0 85 [some (.ref (yb_ad G 176)), some (.int x1), none] [] (yb_mk s X) := by
  intro k0
  induction k0 with
  | zero => intro x1 s h; cases h
  | succ k0 ih =>
    intro x1 s h
    have h : f_X12_day_85 (fun x1 s => l_X12_day_85 k0 x1 s) x1 s = some out := h
    have hrc85 := ih
    unfold f_X12_day_85 at h
    refine n_iload_n (i := 1) dX12_day_85 rfl rfl ?_
    refine n_iconst (5 : Int32) dX12_day_86 ic_5 ?_
    refine n_icmp_ge 108 dX12_day_87 (by decide) (fun c3 => ?_) (fun c3 => ?_)
    · have h := yb_ifp c3 h
      refine n_iconst (0 : Int32) dX12_day_108 ic_0 ?_
      refine n_istore_n (i := 1) (vs' := [some (.ref (yb_ad G 176)), some (.int (0 : Int32)), none]) dX12_day_109 rfl (Nat.le_of_ble_eq_true rfl) rfl rfl ?_
      exact p_jump (tl_X12_day_110 h) (And.intro rfl (And.intro rfl trivial))
    · have h := yb_ifn c3 h
      refine n_aload_n (i := 0) dX12_day_90 rfl rfl ?_
      refine p_getr fl_X12_208 (sh_176 _ _) rfl (rR_176_67 _ _) dX12_day_91 ?_
      refine n_aload_n (i := 0) dX12_day_94 rfl rfl ?_
      refine p_geti fl_X12_275 (sh_176 _ _) rfl dX12_day_95 ?_
      obtain ⟨r39, hr39, h⟩ := yb_bind h
      refine p_aald hr39 (sh_391 _ _) (by decide) rfl (rF_391 _ _) dX12_day_98 ?_
      refine n_iload_n (i := 1) dX12_day_99 rfl rfl ?_
      refine n_lconst (0 : Int64) dX12_day_100 rfl ?_
      obtain ⟨s40, hs40, h⟩ := yb_bind h
      refine p_last hs40 (shF_391 hr39 _ _) dX12_day_101 ?_
      refine n_iinc (vs' := [some (.ref (yb_ad G 176)), some (.int (x1 + (1 : Int32))), none]) dX12_day_102 rfl (ii_1 _) (Nat.le_of_ble_eq_true rfl) rfl rfl ?_
      refine n_goto 85 dX12_day_105 (by decide) ?_
      exact p_jump (hrc85 (x1 + (1 : Int32)) s40 h) (And.intro rfl (And.intro rfl trivial))
set_option maxHeartbeats 4000000 in
set_option maxRecDepth 20000 in
theorem tl_X12_day_85 {G : yb_G} {X : List (FieldType × Nat)} {out : yb_S} {x1 : Int32} {s : yb_S} (h : l_X12_day_85 yb_N x1 s = some out) : Rn G RX12 cX12_day 3 none false (yb_rm 8) (yb_qv X out) 0 0 85 [some (.ref (yb_ad G 176)), some (.int x1), none] [] (yb_mk s X) := t_l_X12_day_85 _ _ _ h
set_option maxHeartbeats 4000000 in
set_option maxRecDepth 20000 in
theorem tj_X12_day_77 {G : yb_G} {X : List (FieldType × Nat)} {rc50 : (Int32 → yb_S → Option yb_S)} {x1 : Int32} {s : yb_S} {out : yb_S} (hrc50 : ∀ (x1' : Int32) (s' : yb_S), rc50 x1' s' = some out → Rn G RX12 cX12_day 3 none false (yb_rm 8) (yb_qv X out) 0 0 50 [some (.ref (yb_ad G 176)), some (.int x1'), none] [] (yb_mk s' X)) (h : j_X12_day_77 rc50 x1 s = some out) : Rn G RX12 cX12_day 3 none false (yb_rm 8) (yb_qv X out) 0 0 77 [some (.ref (yb_ad G 176)), some (.int x1), none] [] (yb_mk s X) := by
  unfold j_X12_day_77 at h
  refine n_iinc (vs' := [some (.ref (yb_ad G 176)), some (.int (x1 + (1 : Int32))), none]) dX12_day_77 rfl (ii_1 _) (Nat.le_of_ble_eq_true rfl) rfl rfl ?_
  refine n_goto 50 dX12_day_80 (by decide) ?_
  exact p_jump (hrc50 (x1 + (1 : Int32)) s h) (And.intro rfl (And.intro rfl trivial))
set_option maxHeartbeats 4000000 in
set_option maxRecDepth 20000 in
theorem t_l_X12_day_50 {G : yb_G} {X : List (FieldType × Nat)} {out : yb_S} : ∀ (k0 : Nat) (x1 : Int32) (s : yb_S), l_X12_day_50 k0 x1 s = some out → Rn G RX12 cX12_day 3 none false (yb_rm 8) (yb_qv X out) 0 0 50 [some (.ref (yb_ad G 176)), some (.int x1), none] [] (yb_mk s X) := by
  intro k0
  induction k0 with
  | zero => intro x1 s h; cases h
  | succ k0 ih =>
    intro x1 s h
    have h : f_X12_day_50 (fun x1 s => l_X12_day_50 k0 x1 s) x1 s = some out := h
    have hrc50 := ih
    unfold f_X12_day_50 at h
    refine n_iload_n (i := 1) dX12_day_50 rfl rfl ?_
    refine n_aload_n (i := 0) dX12_day_51 rfl rfl ?_
    refine p_geti fl_X12_254 (sh_176 _ _) rfl dX12_day_52 ?_
    refine n_icmp_ge 83 dX12_day_55 (by decide) (fun c2 => ?_) (fun c2 => ?_)
    · have h := yb_ifp c2 h
      refine n_iconst (0 : Int32) dX12_day_83 ic_0 ?_
      refine n_istore_n (i := 1) (vs' := [some (.ref (yb_ad G 176)), some (.int (0 : Int32)), none]) dX12_day_84 rfl (Nat.le_of_ble_eq_true rfl) rfl rfl ?_
      exact p_jump (tl_X12_day_85 h) (And.intro rfl (And.intro rfl trivial))
    · have h := yb_ifn c2 h
      refine n_aload_n (i := 0) dX12_day_58 rfl rfl ?_
      refine p_getr fl_X12_66 (sh_176 _ _) rfl (rR_176_22 _ _) dX12_day_59 ?_
      refine n_iload_n (i := 1) dX12_day_62 rfl rfl ?_
      obtain ⟨v41, hv41, h⟩ := yb_bind h
      refine p_iald hv41 (sh_195 _ _) dX12_day_63 ?_
      refine n_if_ne 77 dX12_day_64 (by decide) (fun c42 => ?_) (fun c42 => ?_)
      · have h := yb_ifn c42 h
        exact p_jump (tj_X12_day_77 hrc50 h) (And.intro rfl (And.intro rfl trivial))
      · have h := yb_ifp c42 h
        refine n_aload_n (i := 0) dX12_day_67 rfl rfl ?_
        refine p_getr fl_X12_72 (sh_176 _ _) rfl (rR_176_24 _ _) dX12_day_68 ?_
        refine n_iload_n (i := 1) dX12_day_71 rfl rfl ?_
        refine n_dup2 dX12_day_72 rfl rfl ?_
        obtain ⟨v43, hv43, h⟩ := yb_bind h
        refine p_iald hv43 (sh_197 _ _) dX12_day_73 ?_
        refine n_iconst (1 : Int32) dX12_day_74 ic_1 ?_
        refine n_iadd dX12_day_75 ?_
        obtain ⟨s44, hs44, h⟩ := yb_bind h
        refine p_iast hs44 (sh_197 _ _) dX12_day_76 ?_
        exact p_jump (tj_X12_day_77 hrc50 h) (And.intro rfl (And.intro rfl trivial))
set_option maxHeartbeats 4000000 in
set_option maxRecDepth 20000 in
theorem tl_X12_day_50 {G : yb_G} {X : List (FieldType × Nat)} {out : yb_S} {x1 : Int32} {s : yb_S} (h : l_X12_day_50 yb_N x1 s = some out) : Rn G RX12 cX12_day 3 none false (yb_rm 8) (yb_qv X out) 0 0 50 [some (.ref (yb_ad G 176)), some (.int x1), none] [] (yb_mk s X) := t_l_X12_day_50 _ _ _ h
set_option maxHeartbeats 4000000 in
set_option maxRecDepth 20000 in
theorem tj_X12_day_42 {G : yb_G} {X : List (FieldType × Nat)} {rc2 : (Int32 → yb_S → Option yb_S)} {x1 : Int32} {s : yb_S} {out : yb_S} (hrc2 : ∀ (x1' : Int32) (s' : yb_S), rc2 x1' s' = some out → Rn G RX12 cX12_day 3 none false (yb_rm 8) (yb_qv X out) 0 0 2 [some (.ref (yb_ad G 176)), some (.int x1'), none] [] (yb_mk s' X)) (h : j_X12_day_42 rc2 x1 s = some out) : Rn G RX12 cX12_day 3 none false (yb_rm 8) (yb_qv X out) 0 0 42 [some (.ref (yb_ad G 176)), some (.int x1), none] [] (yb_mk s X) := by
  unfold j_X12_day_42 at h
  refine n_iinc (vs' := [some (.ref (yb_ad G 176)), some (.int (x1 + (1 : Int32))), none]) dX12_day_42 rfl (ii_1 _) (Nat.le_of_ble_eq_true rfl) rfl rfl ?_
  refine n_goto 2 dX12_day_45 (by decide) ?_
  exact p_jump (hrc2 (x1 + (1 : Int32)) s h) (And.intro rfl (And.intro rfl trivial))
set_option maxHeartbeats 4000000 in
set_option maxRecDepth 20000 in
theorem t_l_X12_day_2 {G : yb_G} {X : List (FieldType × Nat)} {out : yb_S} : ∀ (k0 : Nat) (x1 : Int32) (s : yb_S), l_X12_day_2 k0 x1 s = some out → Rn G RX12 cX12_day 3 none false (yb_rm 8) (yb_qv X out) 0 0 2 [some (.ref (yb_ad G 176)), some (.int x1), none] [] (yb_mk s X) := by
  intro k0
  induction k0 with
  | zero => intro x1 s h; cases h
  | succ k0 ih =>
    intro x1 s h
    have h : f_X12_day_2 (fun x1 s => l_X12_day_2 k0 x1 s) x1 s = some out := h
    have hrc2 := ih
    unfold f_X12_day_2 at h
    refine n_iload_n (i := 1) dX12_day_2 rfl rfl ?_
    refine n_aload_n (i := 0) dX12_day_3 rfl rfl ?_
    refine p_geti fl_X12_254 (sh_176 _ _) rfl dX12_day_4 ?_
    refine n_icmp_ge 48 dX12_day_7 (by decide) (fun c1 => ?_) (fun c1 => ?_)
    · have h := yb_ifp c1 h
      refine n_iconst (0 : Int32) dX12_day_48 ic_0 ?_
      refine n_istore_n (i := 1) (vs' := [some (.ref (yb_ad G 176)), some (.int (0 : Int32)), none]) dX12_day_49 rfl (Nat.le_of_ble_eq_true rfl) rfl rfl ?_
      exact p_jump (tl_X12_day_50 h) (And.intro rfl (And.intro rfl trivial))
    · have h := yb_ifn c1 h
      refine n_aload_n (i := 0) dX12_day_10 rfl rfl ?_
      refine n_iload_n (i := 1) dX12_day_11 rfl rfl ?_
      obtain ⟨q45, hq45, h⟩ := yb_bind h
      refine p_callVi (As := [.int x1]) (t_X12_isHoused hq45) cv_X12_287 (sh_176 _ _) rfl rfl (Nat.le_of_ble_eq_true rfl) dX12_day_12 (yb_rok (Nat.le_of_ble_eq_true rfl) (by decide)) ⟨rfl, rfl⟩ ⟨Nat.le_refl _, Nat.le_refl _⟩ (fun k46 => ?_)
      refine n_if_eq 42 dX12_day_15 (by decide) (fun c47 => ?_) (fun c47 => ?_)
      · have h := yb_ifp c47 h
        exact p_jump (tj_X12_day_42 hrc2 h) (And.intro rfl (And.intro rfl trivial))
      · have h := yb_ifn c47 h
        refine n_aload_n (i := 0) dX12_day_18 rfl rfl ?_
        refine p_getr fl_X12_45 (sh_176 _ _) rfl (rR_176_14 _ _) dX12_day_19 ?_
        refine n_aload_n (i := 0) dX12_day_22 rfl rfl ?_
        refine p_getr fl_X12_69 (sh_176 _ _) rfl (rR_176_23 _ _) dX12_day_23 ?_
        refine n_iload_n (i := 1) dX12_day_26 rfl rfl ?_
        obtain ⟨v48, hv48, h⟩ := yb_bind h
        refine p_iald hv48 (sh_196 _ _) dX12_day_27 ?_
        obtain ⟨v49, hv49, h⟩ := yb_bind h
        refine p_iald hv49 (sh_188 _ _) dX12_day_28 ?_
        refine n_aload_n (i := 0) dX12_day_29 rfl rfl ?_
        refine p_geti fl_X12_275 (sh_176 _ _) rfl dX12_day_30 ?_
        refine n_icmp_ne 42 dX12_day_33 (by decide) (fun c50 => ?_) (fun c50 => ?_)
        · have h := yb_ifn c50 h
          exact p_jump (tj_X12_day_42 hrc2 h) (And.intro rfl (And.intro rfl trivial))
        · have h := yb_ifp c50 h
          refine n_aload_n (i := 0) dX12_day_36 rfl rfl ?_
          refine n_iload_n (i := 1) dX12_day_37 rfl rfl ?_
          refine n_iconst (-1 : Int32) dX12_day_38 ic_m1 ?_
          obtain ⟨q51, hq51, h⟩ := yb_bind h
          refine p_callVv (As := [.int x1, .int (-1 : Int32)]) (t_X12_houses hq51) cv_X12_521 (sh_176 _ _) rfl rfl (Nat.le_of_ble_eq_true rfl) dX12_day_39 (yb_rok (Nat.le_of_ble_eq_true rfl) (by decide)) ⟨rfl, rfl⟩ ⟨Nat.le_refl _, Nat.le_refl _⟩ (fun k52 => ?_)
          exact p_jump (tj_X12_day_42 hrc2 h) (And.intro rfl (And.intro rfl trivial))
set_option maxHeartbeats 4000000 in
set_option maxRecDepth 20000 in
theorem tl_X12_day_2 {G : yb_G} {X : List (FieldType × Nat)} {out : yb_S} {x1 : Int32} {s : yb_S} (h : l_X12_day_2 yb_N x1 s = some out) : Rn G RX12 cX12_day 3 none false (yb_rm 8) (yb_qv X out) 0 0 2 [some (.ref (yb_ad G 176)), some (.int x1), none] [] (yb_mk s X) := t_l_X12_day_2 _ _ _ h
set_option maxHeartbeats 4000000 in
set_option maxRecDepth 20000 in
theorem t_X12_day {G : yb_G} {X : List (FieldType × Nat)} {s : yb_S} {out : yb_S} (h : f_X12_day s = some out) : Ct G yX12_day cX12_day 3 none (yb_rm 8) [.ref (yb_ad G 176)] (yb_mk s X) (yb_qv X out) := by
  refine Ct.of (own := RX12) (ini := false) (vs := [some (.ref (yb_ad G 176)), none, none]) ⟨rfl, by decide +kernel⟩ (fun h => by cases h) (Nat.le_of_ble_eq_true rfl) rfl ?_
  unfold f_X12_day at h
  refine n_iconst (0 : Int32) dX12_day_0 ic_0 ?_
  refine n_istore_n (i := 1) (vs' := [some (.ref (yb_ad G 176)), some (.int (0 : Int32)), none]) dX12_day_1 rfl (Nat.le_of_ble_eq_true rfl) rfl rfl ?_
  exact p_jump (tl_X12_day_2 h) (And.intro rfl (And.intro rfl trivial))
set_option maxHeartbeats 4000000 in
set_option maxRecDepth 20000 in
theorem t_X12_end {G : yb_G} {X : List (FieldType × Nat)} {a1 : Int32} {s : yb_S} {out : (Int32 × yb_S)} (h : f_X12_end a1 s = some out) : Ct G yX12_end cX12_end 2 (Option.some .boolean) (yb_rm 2) [.ref (yb_ad G 176), .int a1] (yb_mk s X) (yb_qi X out.2 out.1) := by
  refine Ct.of (own := RX12) (ini := false) (vs := [some (.ref (yb_ad G 176)), some (.int a1)]) ⟨rfl, by decide +kernel⟩ (fun h => by cases h) (Nat.le_of_ble_eq_true rfl) rfl ?_
  unfold f_X12_end at h
  refine n_iload_n (i := 1) dX12_end_0 rfl rfl ?_
  refine n_i2l dX12_end_1 ?_
  refine n_lconst (0 : Int64) dX12_end_2 rfl ?_
  refine n_aload_n (i := 0) dX12_end_3 rfl rfl ?_
  refine p_geti fl_X12_343 (sh_176 _ _) rfl dX12_end_4 ?_
  refine n_i2l dX12_end_7 ?_
  obtain ⟨q1, hq1, h⟩ := yb_bind h
  refine p_callSi (As := [.long (a1.toInt64), .long (0 : Int64), .long ((s.1 176 44).toInt64)]) (t_X12_in hq1) cs_X12_247 rfl rfl (Nat.le_of_ble_eq_true rfl) dX12_end_8 (yb_rok (Nat.le_of_ble_eq_true rfl) (by decide)) ⟨rfl, rfl⟩ ⟨Nat.le_refl _, Nat.le_refl _⟩ (fun k2 => ?_)
  refine n_if_ne 16 dX12_end_11 (by decide) (fun c3 => ?_) (fun c3 => ?_)
  · have h := yb_ifn c3 h
    refine n_aload_n (i := 0) dX12_end_16 rfl rfl ?_
    refine n_iload_n (i := 1) dX12_end_17 rfl rfl ?_
    obtain ⟨s4, hs4, h⟩ := yb_bind h
    refine p_puti hs4 fp_X12_343 (sh_176 _ _) rfl rfl rfl dX12_end_18 ?_
    refine n_iconst (1 : Int32) dX12_end_21 ic_1 ?_
    cases h
    exact n_iret dX12_end_22 rfl (by decide) (Nat.le_refl _) (Nat.le_refl _) ⟨rfl, rfl⟩
  · have h := yb_ifp c3 h
    refine n_iconst (0 : Int32) dX12_end_14 ic_0 ?_
    cases h
    exact n_iret dX12_end_15 rfl (by decide) (Nat.le_refl _) (Nat.le_refl _) ⟨rfl, rfl⟩
set_option maxHeartbeats 4000000 in
set_option maxRecDepth 20000 in
theorem t_X12_ended {G : yb_G} {X : List (FieldType × Nat)} {a1 : Int32} {a2 : Int32} {s : yb_S} {out : Int32} (h : f_X12_ended a1 a2 s = some out) : Ct G yX12_ended cX12_ended 3 (Option.some .int) (yb_rm 3) [.ref (yb_ad G 176), .int a1, .int a2] (yb_mk s X) (yb_qi X s out) := by
  refine Ct.of (own := RX12) (ini := false) (vs := [some (.ref (yb_ad G 176)), some (.int a1), some (.int a2)]) ⟨rfl, by decide +kernel⟩ (fun h => by cases h) (Nat.le_of_ble_eq_true rfl) rfl ?_
  unfold f_X12_ended at h
  refine n_aload_n (i := 0) dX12_ended_0 rfl rfl ?_
  refine n_iload_n (i := 1) dX12_ended_1 rfl rfl ?_
  obtain ⟨q1, hq1, h⟩ := yb_bind h
  refine p_callVi (As := [.int a1]) (t_X12_hasEnded hq1) cv_X12_539 (sh_176 _ _) rfl rfl (Nat.le_of_ble_eq_true rfl) dX12_ended_2 (yb_rok (Nat.le_of_ble_eq_true rfl) (by decide)) ⟨rfl, rfl⟩ ⟨Nat.le_refl _, Nat.le_refl _⟩ (fun k2 => ?_)
  refine n_if_eq 32 dX12_ended_5 (by decide) (fun c3 => ?_) (fun c3 => ?_)
  · have h := yb_ifp c3 h
    refine n_iconst (-1 : Int32) dX12_ended_32 ic_m1 ?_
    cases h
    exact n_iret dX12_ended_33 rfl rfl (Nat.le_refl _) (Nat.le_refl _) ⟨rfl, rfl⟩
  · have h := yb_ifn c3 h
    refine n_iload_n (i := 2) dX12_ended_8 rfl rfl ?_
    refine n_i2l dX12_ended_9 ?_
    refine n_lconst (0 : Int64) dX12_ended_10 rfl ?_
    refine n_ldc2 (4 : Int64) k_X12_590 dX12_ended_11 ?_
    obtain ⟨q4, hq4, h⟩ := yb_bind h
    refine p_callSi (As := [.long (a2.toInt64), .long (0 : Int64), .long (4 : Int64)]) (t_X12_in hq4) cs_X12_247 rfl rfl (Nat.le_of_ble_eq_true rfl) dX12_ended_14 (yb_rok (Nat.le_of_ble_eq_true rfl) (by decide)) ⟨rfl, rfl⟩ ⟨Nat.le_refl _, Nat.le_refl _⟩ (fun k5 => ?_)
    refine n_if_eq 32 dX12_ended_17 (by decide) (fun c6 => ?_) (fun c6 => ?_)
    · have h := yb_ifp c6 h
      refine n_iconst (-1 : Int32) dX12_ended_32 ic_m1 ?_
      cases h
      exact n_iret dX12_ended_33 rfl rfl (Nat.le_refl _) (Nat.le_refl _) ⟨rfl, rfl⟩
    · have h := yb_ifn c6 h
      refine n_aload_n (i := 0) dX12_ended_20 rfl rfl ?_
      refine p_getr fl_X12_208 (sh_176 _ _) rfl (rR_176_67 _ _) dX12_ended_21 ?_
      refine n_iload_n (i := 1) dX12_ended_24 rfl rfl ?_
      obtain ⟨r7, hr7, h⟩ := yb_bind h
      refine p_aald hr7 (sh_391 _ _) (by decide) rfl (rF_391 _ _) dX12_ended_25 ?_
      refine n_iload_n (i := 2) dX12_ended_26 rfl rfl ?_
      obtain ⟨v8, hv8, h⟩ := yb_bind h
      refine p_lald hv8 (shF_391 hr7 _ _) dX12_ended_27 ?_
      refine n_l2i dX12_ended_28 ?_
      refine n_goto 33 dX12_ended_29 (by decide) ?_
      cases h
      exact n_iret dX12_ended_33 rfl rfl (Nat.le_refl _) (Nat.le_refl _) ⟨rfl, rfl⟩
set_option maxHeartbeats 4000000 in
set_option maxRecDepth 20000 in
theorem tj_X12_ends_53 {G : yb_G} {X : List (FieldType × Nat)} {rc23 : (Int32 → Int32 → yb_S → Option (Int32 × yb_S))} {x1 : Int32} {x2 : Int32} {x3 : Int32} {s : yb_S} {out : (Int32 × yb_S)} (hrc23 : ∀ (x2' : Int32) (x3' : Int32) (s' : yb_S), rc23 x2' x3' s' = some out → Rn G RX12 cX12_ends 4 (Option.some .int) false (yb_rm 9) (yb_qi X out.2 out.1) 0 0 23 [some (.ref (yb_ad G 176)), some (.int x1), some (.int x2'), some (.int x3')] [] (yb_mk s' X)) (h : j_X12_ends_53 rc23 x1 x2 x3 s = some out) : Rn G RX12 cX12_ends 4 (Option.some .int) false (yb_rm 9) (yb_qi X out.2 out.1) 0 0 53 [some (.ref (yb_ad G 176)), some (.int x1), some (.int x2), some (.int x3)] [] (yb_mk s X) := by
  unfold j_X12_ends_53 at h
  refine n_iinc (vs' := [some (.ref (yb_ad G 176)), some (.int x1), some (.int x2), some (.int (x3 + (1 : Int32)))]) dX12_ends_53 rfl (ii_1 _) (Nat.le_of_ble_eq_true rfl) rfl rfl ?_
  refine n_goto 23 dX12_ends_56 (by decide) ?_
  exact p_jump (hrc23 x2 (x3 + (1 : Int32)) s h) (And.intro rfl (And.intro rfl (And.intro rfl (And.intro rfl trivial))))
set_option maxHeartbeats 4000000 in
set_option maxRecDepth 20000 in
theorem tj_X12_ends_51 {G : yb_G} {X : List (FieldType × Nat)} {rc23 : (Int32 → Int32 → yb_S → Option (Int32 × yb_S))} {x1 : Int32} {x3 : Int32} {s : yb_S} {out : (Int32 × yb_S)} (hrc23 : ∀ (x2' : Int32) (x3' : Int32) (s' : yb_S), rc23 x2' x3' s' = some out → Rn G RX12 cX12_ends 4 (Option.some .int) false (yb_rm 9) (yb_qi X out.2 out.1) 0 0 23 [some (.ref (yb_ad G 176)), some (.int x1), some (.int x2'), some (.int x3')] [] (yb_mk s' X)) (h : j_X12_ends_51 rc23 x1 x3 s = some out) : Rn G RX12 cX12_ends 4 (Option.some .int) false (yb_rm 9) (yb_qi X out.2 out.1) 0 0 51 [some (.ref (yb_ad G 176)), some (.int x1), none, some (.int x3)] [] (yb_mk s X) := by
  unfold j_X12_ends_51 at h
  refine n_iload_n (i := 3) dX12_ends_51 rfl rfl ?_
  refine n_istore_n (i := 2) (vs' := [some (.ref (yb_ad G 176)), some (.int x1), some (.int x3), some (.int x3)]) dX12_ends_52 rfl (Nat.le_of_ble_eq_true rfl) rfl rfl ?_
  exact p_jump (tj_X12_ends_53 hrc23 h) (And.intro rfl (And.intro rfl (And.intro rfl (And.intro rfl trivial))))
set_option maxHeartbeats 4000000 in
set_option maxRecDepth 20000 in
theorem t_l_X12_ends_23 {G : yb_G} {X : List (FieldType × Nat)} {x1 : Int32} {out : (Int32 × yb_S)} : ∀ (k0 : Nat) (x2 : Int32) (x3 : Int32) (s : yb_S), l_X12_ends_23 x1 k0 x2 x3 s = some out → Rn G RX12 cX12_ends 4 (Option.some .int) false (yb_rm 9) (yb_qi X out.2 out.1) 0 0 23 [some (.ref (yb_ad G 176)), some (.int x1), some (.int x2), some (.int x3)] [] (yb_mk s X) := by
  intro k0
  induction k0 with
  | zero => intro x2 x3 s h; cases h
  | succ k0 ih =>
    intro x2 x3 s h
    have h : f_X12_ends_23 (fun x2 x3 s => l_X12_ends_23 x1 k0 x2 x3 s) x1 x2 x3 s = some out := h
    have hrc23 := ih
    unfold f_X12_ends_23 at h
    refine n_iload_n (i := 3) dX12_ends_23 rfl rfl ?_
    refine n_aload_n (i := 0) dX12_ends_24 rfl rfl ?_
    refine p_geti fl_X12_251 (sh_176 _ _) rfl dX12_ends_25 ?_
    refine n_icmp_ge 59 dX12_ends_28 (by decide) (fun c6 => ?_) (fun c6 => ?_)
    · have h := yb_ifp c6 h
      refine n_iload_n (i := 2) dX12_ends_59 rfl rfl ?_
      cases h
      exact n_iret dX12_ends_60 rfl rfl (Nat.le_refl _) (Nat.le_refl _) ⟨rfl, rfl⟩
    · have h := yb_ifn c6 h
      refine n_iload_n (i := 2) dX12_ends_31 rfl rfl ?_
      refine n_iconst (-1 : Int32) dX12_ends_32 ic_m1 ?_
      refine n_icmp_eq 51 dX12_ends_33 (by decide) (fun c7 => ?_) (fun c7 => ?_)
      · have h := yb_ifp c7 h
        exact p_jump (tj_X12_ends_51 hrc23 h) (And.intro rfl (And.intro rfl (And.intro rfl trivial)))
      · have h := yb_ifn c7 h
        refine n_aload_n (i := 0) dX12_ends_36 rfl rfl ?_
        refine n_iload_n (i := 1) dX12_ends_37 rfl rfl ?_
        refine n_iload_n (i := 3) dX12_ends_38 rfl rfl ?_
        obtain ⟨q8, hq8, h⟩ := yb_bind h
        refine p_callVi (As := [.int x1, .int x3]) (t_X12_barOf hq8) cv_X12_509 (sh_176 _ _) rfl rfl (Nat.le_of_ble_eq_true rfl) dX12_ends_39 (yb_rok (Nat.le_of_ble_eq_true rfl) (by decide)) ⟨rfl, rfl⟩ ⟨Nat.le_refl _, Nat.le_refl _⟩ (fun k9 => ?_)
        refine n_aload_n (i := 0) dX12_ends_42 rfl rfl ?_
        refine n_iload_n (i := 1) dX12_ends_43 rfl rfl ?_
        refine n_iload_n (i := 2) dX12_ends_44 rfl rfl ?_
        obtain ⟨q10, hq10, h⟩ := yb_bind h
        refine p_callVi (As := [.int x1, .int x2]) (t_X12_barOf hq10) cv_X12_509 (sh_176 _ _) rfl rfl (Nat.le_of_ble_eq_true rfl) dX12_ends_45 (yb_rok (Nat.le_of_ble_eq_true rfl) (by decide)) ⟨rfl, rfl⟩ ⟨Nat.le_refl _, Nat.le_refl _⟩ (fun k11 => ?_)
        refine n_icmp_ge 53 dX12_ends_48 (by decide) (fun c12 => ?_) (fun c12 => ?_)
        · have h := yb_ifp c12 h
          exact p_jump (tj_X12_ends_53 hrc23 h) (And.intro rfl (And.intro rfl (And.intro rfl (And.intro rfl trivial))))
        · have h := yb_ifn c12 h
          exact p_jump (tj_X12_ends_51 hrc23 h) (And.intro rfl (And.intro rfl (And.intro rfl trivial)))
set_option maxHeartbeats 4000000 in
set_option maxRecDepth 20000 in
theorem tl_X12_ends_23 {G : yb_G} {X : List (FieldType × Nat)} {x1 : Int32} {out : (Int32 × yb_S)} {x2 : Int32} {x3 : Int32} {s : yb_S} (h : l_X12_ends_23 x1 yb_N x2 x3 s = some out) : Rn G RX12 cX12_ends 4 (Option.some .int) false (yb_rm 9) (yb_qi X out.2 out.1) 0 0 23 [some (.ref (yb_ad G 176)), some (.int x1), some (.int x2), some (.int x3)] [] (yb_mk s X) := t_l_X12_ends_23 _ _ _ _ h
set_option maxHeartbeats 4000000 in
set_option maxRecDepth 20000 in
theorem t_X12_ends {G : yb_G} {X : List (FieldType × Nat)} {a1 : Int32} {s : yb_S} {out : (Int32 × yb_S)} (h : f_X12_ends a1 s = some out) : Ct G yX12_ends cX12_ends 4 (Option.some .int) (yb_rm 9) [.ref (yb_ad G 176), .int a1] (yb_mk s X) (yb_qi X out.2 out.1) := by
  refine Ct.of (own := RX12) (ini := false) (vs := [some (.ref (yb_ad G 176)), some (.int a1), none, none]) ⟨rfl, by decide +kernel⟩ (fun h => by cases h) (Nat.le_of_ble_eq_true rfl) rfl ?_
  unfold f_X12_ends at h
  refine n_aload_n (i := 0) dX12_ends_0 rfl rfl ?_
  refine n_iload_n (i := 1) dX12_ends_1 rfl rfl ?_
  obtain ⟨q1, hq1, h⟩ := yb_bind h
  refine p_callVi (As := [.int a1]) (t_X12_isFamily hq1) cv_X12_282 (sh_176 _ _) rfl rfl (Nat.le_of_ble_eq_true rfl) dX12_ends_2 (yb_rok (Nat.le_of_ble_eq_true rfl) (by decide)) ⟨rfl, rfl⟩ ⟨Nat.le_refl _, Nat.le_refl _⟩ (fun k2 => ?_)
  refine n_if_eq 17 dX12_ends_5 (by decide) (fun c3 => ?_) (fun c3 => ?_)
  · have h := yb_ifp c3 h
    refine n_iconst (-1 : Int32) dX12_ends_17 ic_m1 ?_
    cases h
    exact n_iret dX12_ends_18 rfl rfl (Nat.le_refl _) (Nat.le_refl _) ⟨rfl, rfl⟩
  · have h := yb_ifn c3 h
    refine n_aload_n (i := 0) dX12_ends_8 rfl rfl ?_
    refine p_getr fl_X12_66 (sh_176 _ _) rfl (rR_176_22 _ _) dX12_ends_9 ?_
    refine n_iload_n (i := 1) dX12_ends_12 rfl rfl ?_
    obtain ⟨v4, hv4, h⟩ := yb_bind h
    refine p_iald hv4 (sh_195 _ _) dX12_ends_13 ?_
    refine n_if_eq 19 dX12_ends_14 (by decide) (fun c5 => ?_) (fun c5 => ?_)
    · have h := yb_ifp c5 h
      refine n_iconst (-1 : Int32) dX12_ends_19 ic_m1 ?_
      refine n_istore_n (i := 2) (vs' := [some (.ref (yb_ad G 176)), some (.int a1), some (.int (-1 : Int32)), none]) dX12_ends_20 rfl (Nat.le_of_ble_eq_true rfl) rfl rfl ?_
      refine n_iconst (0 : Int32) dX12_ends_21 ic_0 ?_
      refine n_istore_n (i := 3) (vs' := [some (.ref (yb_ad G 176)), some (.int a1), some (.int (-1 : Int32)), some (.int (0 : Int32))]) dX12_ends_22 rfl (Nat.le_of_ble_eq_true rfl) rfl rfl ?_
      exact p_jump (tl_X12_ends_23 h) (And.intro rfl (And.intro rfl (And.intro rfl (And.intro rfl trivial))))
    · have h := yb_ifn c5 h
      refine n_iconst (-1 : Int32) dX12_ends_17 ic_m1 ?_
      cases h
      exact n_iret dX12_ends_18 rfl rfl (Nat.le_refl _) (Nat.le_refl _) ⟨rfl, rfl⟩
set_option maxHeartbeats 4000000 in
set_option maxRecDepth 20000 in
theorem t_X12_family {G : yb_G} {X : List (FieldType × Nat)} {a1 : Int32} {a2 : Int32} {s : yb_S} {out : (Int32 × yb_S)} (h : f_X12_family a1 a2 s = some out) : Ct G yX12_family cX12_family 4 (Option.some .int) (yb_rm 2) [.ref (yb_ad G 176), .int a1, .int a2] (yb_mk s X) (yb_qi X out.2 out.1) := by
  refine Ct.of (own := RX12) (ini := false) (vs := [some (.ref (yb_ad G 176)), some (.int a1), some (.int a2), none]) ⟨rfl, by decide +kernel⟩ (fun h => by cases h) (Nat.le_of_ble_eq_true rfl) rfl ?_
  unfold f_X12_family at h
  refine n_iload_n (i := 1) dX12_family_0 rfl rfl ?_
  refine n_if_lt 81 dX12_family_1 (by decide) (fun c1 => ?_) (fun c1 => ?_)
  · have h := yb_ifp c1 h
    refine n_iconst (-1 : Int32) dX12_family_81 ic_m1 ?_
    cases h
    exact n_iret dX12_family_82 rfl rfl (Nat.le_refl _) (Nat.le_refl _) ⟨rfl, rfl⟩
  · have h := yb_ifn c1 h
    refine n_iload_n (i := 2) dX12_family_4 rfl rfl ?_
    refine n_if_lt 81 dX12_family_5 (by decide) (fun c2 => ?_) (fun c2 => ?_)
    · have h := yb_ifp c2 h
      refine n_iconst (-1 : Int32) dX12_family_81 ic_m1 ?_
      cases h
      exact n_iret dX12_family_82 rfl rfl (Nat.le_refl _) (Nat.le_refl _) ⟨rfl, rfl⟩
    · have h := yb_ifn c2 h
      refine n_iload_n (i := 1) dX12_family_8 rfl rfl ?_
      refine n_bipush (100 : Int32) dX12_family_9 bp_100 ?_
      refine n_idiv dX12_family_11 (by decide) ?_
      refine n_i2l dX12_family_12 ?_
      refine n_lconst (1 : Int64) dX12_family_13 rfl ?_
      refine n_ldc2 (9 : Int64) k_X12_265 dX12_family_14 ?_
      obtain ⟨q3, hq3, h⟩ := yb_bind h
      refine p_callSi (As := [.long ((a1 / (100 : Int32)).toInt64), .long (1 : Int64), .long (9 : Int64)]) (t_X12_in hq3) cs_X12_247 rfl rfl (Nat.le_of_ble_eq_true rfl) dX12_family_17 (yb_rok (Nat.le_of_ble_eq_true rfl) (by decide)) ⟨rfl, rfl⟩ ⟨Nat.le_refl _, Nat.le_refl _⟩ (fun k4 => ?_)
      refine n_if_eq 81 dX12_family_20 (by decide) (fun c5 => ?_) (fun c5 => ?_)
      · have h := yb_ifp c5 h
        refine n_iconst (-1 : Int32) dX12_family_81 ic_m1 ?_
        cases h
        exact n_iret dX12_family_82 rfl rfl (Nat.le_refl _) (Nat.le_refl _) ⟨rfl, rfl⟩
      · have h := yb_ifn c5 h
        refine n_iload_n (i := 1) dX12_family_23 rfl rfl ?_
        refine n_bipush (10 : Int32) dX12_family_24 bp_10 ?_
        refine n_idiv dX12_family_26 (by decide) ?_
        refine n_bipush (10 : Int32) dX12_family_27 bp_10 ?_
        refine p_irem (by decide) dX12_family_29 ?_
        refine n_iload_n (i := 1) dX12_family_30 rfl rfl ?_
        refine n_bipush (100 : Int32) dX12_family_31 bp_100 ?_
        refine n_idiv dX12_family_33 (by decide) ?_
        refine n_icmp_gt 81 dX12_family_34 (by decide) (fun c6 => ?_) (fun c6 => ?_)
        · have h := yb_ifp c6 h
          refine n_iconst (-1 : Int32) dX12_family_81 ic_m1 ?_
          cases h
          exact n_iret dX12_family_82 rfl rfl (Nat.le_refl _) (Nat.le_refl _) ⟨rfl, rfl⟩
        · have h := yb_ifn c6 h
          refine n_iload_n (i := 1) dX12_family_37 rfl rfl ?_
          refine n_bipush (10 : Int32) dX12_family_38 bp_10 ?_
          refine p_irem (by decide) dX12_family_40 ?_
          refine n_iconst (1 : Int32) dX12_family_41 ic_1 ?_
          refine n_icmp_gt 81 dX12_family_42 (by decide) (fun c7 => ?_) (fun c7 => ?_)
          · have h := yb_ifp c7 h
            refine n_iconst (-1 : Int32) dX12_family_81 ic_m1 ?_
            cases h
            exact n_iret dX12_family_82 rfl rfl (Nat.le_refl _) (Nat.le_refl _) ⟨rfl, rfl⟩
          · have h := yb_ifn c7 h
            refine n_iload_n (i := 2) dX12_family_45 rfl rfl ?_
            refine n_bipush (100 : Int32) dX12_family_46 bp_100 ?_
            refine n_idiv dX12_family_48 (by decide) ?_
            refine n_iconst (3 : Int32) dX12_family_49 ic_3 ?_
            refine n_icmp_gt 81 dX12_family_50 (by decide) (fun c8 => ?_) (fun c8 => ?_)
            · have h := yb_ifp c8 h
              refine n_iconst (-1 : Int32) dX12_family_81 ic_m1 ?_
              cases h
              exact n_iret dX12_family_82 rfl rfl (Nat.le_refl _) (Nat.le_refl _) ⟨rfl, rfl⟩
            · have h := yb_ifn c8 h
              refine n_iload_n (i := 2) dX12_family_53 rfl rfl ?_
              refine n_bipush (10 : Int32) dX12_family_54 bp_10 ?_
              refine n_idiv dX12_family_56 (by decide) ?_
              refine n_bipush (10 : Int32) dX12_family_57 bp_10 ?_
              refine p_irem (by decide) dX12_family_59 ?_
              refine n_iconst (5 : Int32) dX12_family_60 ic_5 ?_
              refine n_icmp_gt 81 dX12_family_61 (by decide) (fun c9 => ?_) (fun c9 => ?_)
              · have h := yb_ifp c9 h
                refine n_iconst (-1 : Int32) dX12_family_81 ic_m1 ?_
                cases h
                exact n_iret dX12_family_82 rfl rfl (Nat.le_refl _) (Nat.le_refl _) ⟨rfl, rfl⟩
              · have h := yb_ifn c9 h
                refine n_iload_n (i := 2) dX12_family_64 rfl rfl ?_
                refine n_bipush (10 : Int32) dX12_family_65 bp_10 ?_
                refine p_irem (by decide) dX12_family_67 ?_
                refine n_iconst (5 : Int32) dX12_family_68 ic_5 ?_
                refine n_icmp_gt 81 dX12_family_69 (by decide) (fun c10 => ?_) (fun c10 => ?_)
                · have h := yb_ifp c10 h
                  refine n_iconst (-1 : Int32) dX12_family_81 ic_m1 ?_
                  cases h
                  exact n_iret dX12_family_82 rfl rfl (Nat.le_refl _) (Nat.le_refl _) ⟨rfl, rfl⟩
                · have h := yb_ifn c10 h
                  refine n_aload_n (i := 0) dX12_family_72 rfl rfl ?_
                  refine p_geti fl_X12_254 (sh_176 _ _) rfl dX12_family_73 ?_
                  refine n_bipush (24 : Int32) dX12_family_76 bp_24 ?_
                  refine n_icmp_ne 83 dX12_family_78 (by decide) (fun c11 => ?_) (fun c11 => ?_)
                  · have h := yb_ifn c11 h
                    refine n_aload_n (i := 0) dX12_family_83 rfl rfl ?_
                    refine p_geti fl_X12_254 (sh_176 _ _) rfl dX12_family_84 ?_
                    refine n_istore_n (i := 3) (vs' := [some (.ref (yb_ad G 176)), some (.int a1), some (.int a2), some (.int (s.1 176 27))]) dX12_family_87 rfl (Nat.le_of_ble_eq_true rfl) rfl rfl ?_
                    refine n_aload_n (i := 0) dX12_family_88 rfl rfl ?_
                    refine p_getr fl_X12_48 (sh_176 _ _) rfl (rR_176_16 _ _) dX12_family_89 ?_
                    refine n_iload_n (i := 3) dX12_family_92 rfl rfl ?_
                    refine n_iload_n (i := 1) dX12_family_93 rfl rfl ?_
                    refine n_bipush (100 : Int32) dX12_family_94 bp_100 ?_
                    refine n_idiv dX12_family_96 (by decide) ?_
                    obtain ⟨s12, hs12, h⟩ := yb_bind h
                    refine p_iast hs12 (sh_189 _ _) dX12_family_97 ?_
                    refine n_aload_n (i := 0) dX12_family_98 rfl rfl ?_
                    refine p_getr fl_X12_51 (sh_176 _ _) rfl (rR_176_17 _ _) dX12_family_99 ?_
                    refine n_iload_n (i := 3) dX12_family_102 rfl rfl ?_
                    refine n_iload_n (i := 1) dX12_family_103 rfl rfl ?_
                    refine n_bipush (10 : Int32) dX12_family_104 bp_10 ?_
                    refine n_idiv dX12_family_106 (by decide) ?_
                    refine n_bipush (10 : Int32) dX12_family_107 bp_10 ?_
                    refine p_irem (by decide) dX12_family_109 ?_
                    obtain ⟨s13, hs13, h⟩ := yb_bind h
                    refine p_iast hs13 (sh_190 _ _) dX12_family_110 ?_
                    refine n_aload_n (i := 0) dX12_family_111 rfl rfl ?_
                    refine p_getr fl_X12_54 (sh_176 _ _) rfl (rR_176_18 _ _) dX12_family_112 ?_
                    refine n_iload_n (i := 3) dX12_family_115 rfl rfl ?_
                    refine n_iload_n (i := 1) dX12_family_116 rfl rfl ?_
                    refine n_bipush (10 : Int32) dX12_family_117 bp_10 ?_
                    refine p_irem (by decide) dX12_family_119 ?_
                    obtain ⟨s14, hs14, h⟩ := yb_bind h
                    refine p_iast hs14 (sh_191 _ _) dX12_family_120 ?_
                    refine n_aload_n (i := 0) dX12_family_121 rfl rfl ?_
                    refine p_getr fl_X12_57 (sh_176 _ _) rfl (rR_176_19 _ _) dX12_family_122 ?_
                    refine n_iload_n (i := 3) dX12_family_125 rfl rfl ?_
                    refine n_iload_n (i := 2) dX12_family_126 rfl rfl ?_
                    refine n_bipush (100 : Int32) dX12_family_127 bp_100 ?_
                    refine n_idiv dX12_family_129 (by decide) ?_
                    obtain ⟨s15, hs15, h⟩ := yb_bind h
                    refine p_iast hs15 (sh_192 _ _) dX12_family_130 ?_
                    refine n_aload_n (i := 0) dX12_family_131 rfl rfl ?_
                    refine p_getr fl_X12_60 (sh_176 _ _) rfl (rR_176_20 _ _) dX12_family_132 ?_
                    refine n_iload_n (i := 3) dX12_family_135 rfl rfl ?_
                    refine n_iload_n (i := 2) dX12_family_136 rfl rfl ?_
                    refine n_bipush (10 : Int32) dX12_family_137 bp_10 ?_
                    refine n_idiv dX12_family_139 (by decide) ?_
                    refine n_bipush (10 : Int32) dX12_family_140 bp_10 ?_
                    refine p_irem (by decide) dX12_family_142 ?_
                    obtain ⟨s16, hs16, h⟩ := yb_bind h
                    refine p_iast hs16 (sh_193 _ _) dX12_family_143 ?_
                    refine n_aload_n (i := 0) dX12_family_144 rfl rfl ?_
                    refine p_getr fl_X12_63 (sh_176 _ _) rfl (rR_176_21 _ _) dX12_family_145 ?_
                    refine n_iload_n (i := 3) dX12_family_148 rfl rfl ?_
                    refine n_iload_n (i := 2) dX12_family_149 rfl rfl ?_
                    refine n_bipush (10 : Int32) dX12_family_150 bp_10 ?_
                    refine p_irem (by decide) dX12_family_152 ?_
                    obtain ⟨s17, hs17, h⟩ := yb_bind h
                    refine p_iast hs17 (sh_194 _ _) dX12_family_153 ?_
                    refine n_aload_n (i := 0) dX12_family_154 rfl rfl ?_
                    refine p_getr fl_X12_66 (sh_176 _ _) rfl (rR_176_22 _ _) dX12_family_155 ?_
                    refine n_iload_n (i := 3) dX12_family_158 rfl rfl ?_
                    refine n_iconst (0 : Int32) dX12_family_159 ic_0 ?_
                    obtain ⟨s18, hs18, h⟩ := yb_bind h
                    refine p_iast hs18 (sh_195 _ _) dX12_family_160 ?_
                    refine n_aload_n (i := 0) dX12_family_161 rfl rfl ?_
                    refine p_getr fl_X12_69 (sh_176 _ _) rfl (rR_176_23 _ _) dX12_family_162 ?_
                    refine n_iload_n (i := 3) dX12_family_165 rfl rfl ?_
                    refine n_iconst (-1 : Int32) dX12_family_166 ic_m1 ?_
                    obtain ⟨s19, hs19, h⟩ := yb_bind h
                    refine p_iast hs19 (sh_196 _ _) dX12_family_167 ?_
                    refine n_aload_n (i := 0) dX12_family_168 rfl rfl ?_
                    refine p_getr fl_X12_75 (sh_176 _ _) rfl (rR_176_25 _ _) dX12_family_169 ?_
                    refine n_iload_n (i := 3) dX12_family_172 rfl rfl ?_
                    refine n_aload_n (i := 0) dX12_family_173 rfl rfl ?_
                    refine p_geti fl_X12_275 (sh_176 _ _) rfl dX12_family_174 ?_
                    obtain ⟨s20, hs20, h⟩ := yb_bind h
                    refine p_iast hs20 (sh_198 _ _) dX12_family_177 ?_
                    refine n_aload_n (i := 0) dX12_family_178 rfl rfl ?_
                    refine p_getr fl_X12_78 (sh_176 _ _) rfl (rR_176_26 _ _) dX12_family_179 ?_
                    refine n_iload_n (i := 3) dX12_family_182 rfl rfl ?_
                    refine n_iconst (-1 : Int32) dX12_family_183 ic_m1 ?_
                    obtain ⟨s21, hs21, h⟩ := yb_bind h
                    refine p_iast hs21 (sh_199 _ _) dX12_family_184 ?_
                    refine n_aload_n (i := 0) dX12_family_185 rfl rfl ?_
                    refine n_dup dX12_family_186 rfl ?_
                    refine p_geti fl_X12_254 (sh_176 _ _) rfl dX12_family_187 ?_
                    refine n_iconst (1 : Int32) dX12_family_190 ic_1 ?_
                    refine n_iadd dX12_family_191 ?_
                    obtain ⟨s22, hs22, h⟩ := yb_bind h
                    refine p_puti hs22 fp_X12_254 (sh_176 _ _) rfl rfl rfl dX12_family_192 ?_
                    refine n_aload_n (i := 0) dX12_family_195 rfl rfl ?_
                    refine n_iconst (0 : Int32) dX12_family_196 ic_0 ?_
                    obtain ⟨s23, hs23, h⟩ := yb_bind h
                    refine p_puti hs23 fp_X12_278 (sh_176 _ _) rfl rfl rfl dX12_family_197 ?_
                    refine n_iload_n (i := 3) dX12_family_200 rfl rfl ?_
                    cases h
                    exact n_iret dX12_family_201 rfl rfl (Nat.le_refl _) (Nat.le_refl _) ⟨rfl, rfl⟩
                  · have h := yb_ifp c11 h
                    refine n_iconst (-1 : Int32) dX12_family_81 ic_m1 ?_
                    cases h
                    exact n_iret dX12_family_82 rfl rfl (Nat.le_refl _) (Nat.le_refl _) ⟨rfl, rfl⟩
set_option maxHeartbeats 4000000 in
set_option maxRecDepth 20000 in
theorem t_l_X12_reads_40 {G : yb_G} {X : List (FieldType × Nat)} {out : yb_S} : ∀ (k0 : Nat) (x1 : Int32) (s : yb_S), l_X12_reads_40 k0 x1 s = some out → Rn G RX12 cX12_reads 2 none false (yb_rm 251) (yb_qv X out) 0 0 40 [some (.ref (yb_ad G 176)), some (.int x1)] [] (yb_mk s X) := by
  intro k0
  induction k0 with
  | zero => intro x1 s h; cases h
  | succ k0 ih =>
    intro x1 s h
    have h : f_X12_reads_40 (fun x1 s => l_X12_reads_40 k0 x1 s) x1 s = some out := h
    have hrc40 := ih
    unfold f_X12_reads_40 at h
    refine n_iload_n (i := 1) dX12_reads_40 rfl rfl ?_
    refine n_if_eq 63 dX12_reads_41 (by decide) (fun c6 => ?_) (fun c6 => ?_)
    · have h := yb_ifp c6 h
      cases h
      exact n_vret dX12_reads_63 rfl (Nat.le_refl _) (Nat.le_refl _) ⟨rfl, rfl⟩
    · have h := yb_ifn c6 h
      refine n_aload_n (i := 0) dX12_reads_44 rfl rfl ?_
      refine p_geti fl_X12_350 (sh_176 _ _) rfl dX12_reads_45 ?_
      refine n_aload_n (i := 0) dX12_reads_48 rfl rfl ?_
      refine p_geti fl_X12_343 (sh_176 _ _) rfl dX12_reads_49 ?_
      refine n_icmp_ge 63 dX12_reads_52 (by decide) (fun c7 => ?_) (fun c7 => ?_)
      · have h := yb_ifp c7 h
        cases h
        exact n_vret dX12_reads_63 rfl (Nat.le_refl _) (Nat.le_refl _) ⟨rfl, rfl⟩
      · have h := yb_ifn c7 h
        refine n_aload_n (i := 0) dX12_reads_55 rfl rfl ?_
        obtain ⟨q8, hq8, h⟩ := yb_bind h
        refine p_callVi (As := []) (t_X12_clauses hq8) cv_X12_434 (sh_176 _ _) rfl rfl (Nat.le_of_ble_eq_true rfl) dX12_reads_56 (yb_rok (Nat.le_of_ble_eq_true rfl) (by decide)) ⟨rfl, rfl⟩ ⟨Nat.le_refl _, Nat.le_refl _⟩ (fun k9 => ?_)
        refine n_istore_n (i := 1) (vs' := [some (.ref (yb_ad G 176)), some (.int q8.1)]) dX12_reads_59 rfl (Nat.le_of_ble_eq_true rfl) rfl rfl ?_
        refine n_goto 40 dX12_reads_60 (by decide) ?_
        exact p_jump (hrc40 q8.1 q8.2 h) (And.intro rfl (And.intro rfl trivial))
set_option maxHeartbeats 4000000 in
set_option maxRecDepth 20000 in
theorem tl_X12_reads_40 {G : yb_G} {X : List (FieldType × Nat)} {out : yb_S} {x1 : Int32} {s : yb_S} (h : l_X12_reads_40 yb_N x1 s = some out) : Rn G RX12 cX12_reads 2 none false (yb_rm 251) (yb_qv X out) 0 0 40 [some (.ref (yb_ad G 176)), some (.int x1)] [] (yb_mk s X) := t_l_X12_reads_40 _ _ _ h
set_option maxHeartbeats 4000000 in
set_option maxRecDepth 20000 in
theorem t_l_X12_reads_7 {G : yb_G} {X : List (FieldType × Nat)} {out : yb_S} : ∀ (k0 : Nat) (x1 : Int32) (s : yb_S), l_X12_reads_7 k0 x1 s = some out → Rn G RX12 cX12_reads 2 none false (yb_rm 251) (yb_qv X out) 0 0 7 [some (.ref (yb_ad G 176)), some (.int x1)] [] (yb_mk s X) := by
  intro k0
  induction k0 with
  | zero => intro x1 s h; cases h
  | succ k0 ih =>
    intro x1 s h
    have h : f_X12_reads_7 (fun x1 s => l_X12_reads_7 k0 x1 s) x1 s = some out := h
    have hrc7 := ih
    unfold f_X12_reads_7 at h
    refine n_iload_n (i := 1) dX12_reads_7 rfl rfl ?_
    refine n_bipush (6 : Int32) dX12_reads_8 bp_6 ?_
    refine n_icmp_ge 29 dX12_reads_10 (by decide) (fun c2 => ?_) (fun c2 => ?_)
    · have h := yb_ifp c2 h
      refine n_aload_n (i := 0) dX12_reads_29 rfl rfl ?_
      refine n_iconst (0 : Int32) dX12_reads_30 ic_0 ?_
      obtain ⟨s3, hs3, h⟩ := yb_bind h
      refine p_puti hs3 fp_X12_350 (sh_176 _ _) rfl rfl rfl dX12_reads_31 ?_
      refine n_aload_n (i := 0) dX12_reads_34 rfl rfl ?_
      obtain ⟨q4, hq4, h⟩ := yb_bind h
      refine p_callVv (As := []) (t_X12_skips hq4) cv_X12_362 (sh_176 _ _) rfl rfl (Nat.le_of_ble_eq_true rfl) dX12_reads_35 (yb_rok (Nat.le_of_ble_eq_true rfl) (by decide)) ⟨rfl, rfl⟩ ⟨Nat.le_refl _, Nat.le_refl _⟩ (fun k5 => ?_)
      refine n_iconst (1 : Int32) dX12_reads_38 ic_1 ?_
      refine n_istore_n (i := 1) (vs' := [some (.ref (yb_ad G 176)), some (.int (1 : Int32))]) dX12_reads_39 rfl (Nat.le_of_ble_eq_true rfl) rfl rfl ?_
      exact p_jump (tl_X12_reads_40 h) (And.intro rfl (And.intro rfl trivial))
    · have h := yb_ifn c2 h
      refine n_aload_n (i := 0) dX12_reads_13 rfl rfl ?_
      refine p_getr fl_X12_128 (sh_176 _ _) rfl (rR_176_51 _ _) dX12_reads_14 ?_
      refine n_bipush (10 : Int32) dX12_reads_17 bp_10 ?_
      obtain ⟨r10, hr10, h⟩ := yb_bind h
      refine p_aald hr10 (sh_321 _ _) (by decide) rfl (rF_321 _ _) dX12_reads_19 ?_
      refine n_iload_n (i := 1) dX12_reads_20 rfl rfl ?_
      refine n_iconst (0 : Int32) dX12_reads_21 ic_0 ?_
      obtain ⟨s11, hs11, h⟩ := yb_bind h
      refine p_iast hs11 (shF_321 hr10 _ _) dX12_reads_22 ?_
      refine n_iinc (vs' := [some (.ref (yb_ad G 176)), some (.int (x1 + (1 : Int32)))]) dX12_reads_23 rfl (ii_1 _) (Nat.le_of_ble_eq_true rfl) rfl rfl ?_
      refine n_goto 7 dX12_reads_26 (by decide) ?_
      exact p_jump (hrc7 (x1 + (1 : Int32)) s11 h) (And.intro rfl (And.intro rfl trivial))
set_option maxHeartbeats 4000000 in
set_option maxRecDepth 20000 in
theorem tl_X12_reads_7 {G : yb_G} {X : List (FieldType × Nat)} {out : yb_S} {x1 : Int32} {s : yb_S} (h : l_X12_reads_7 yb_N x1 s = some out) : Rn G RX12 cX12_reads 2 none false (yb_rm 251) (yb_qv X out) 0 0 7 [some (.ref (yb_ad G 176)), some (.int x1)] [] (yb_mk s X) := t_l_X12_reads_7 _ _ _ h
set_option maxHeartbeats 4000000 in
set_option maxRecDepth 20000 in
theorem t_X12_reads {G : yb_G} {X : List (FieldType × Nat)} {s : yb_S} {out : yb_S} (h : f_X12_reads s = some out) : Ct G yX12_reads cX12_reads 2 none (yb_rm 251) [.ref (yb_ad G 176)] (yb_mk s X) (yb_qv X out) := by
  refine Ct.of (own := RX12) (ini := false) (vs := [some (.ref (yb_ad G 176)), none]) ⟨rfl, by decide +kernel⟩ (fun h => by cases h) (Nat.le_of_ble_eq_true rfl) rfl ?_
  unfold f_X12_reads at h
  refine n_aload_n (i := 0) dX12_reads_0 rfl rfl ?_
  refine n_iconst (-1 : Int32) dX12_reads_1 ic_m1 ?_
  obtain ⟨s1, hs1, h⟩ := yb_bind h
  refine p_puti hs1 fp_X12_373 (sh_176 _ _) rfl rfl rfl dX12_reads_2 ?_
  refine n_iconst (0 : Int32) dX12_reads_5 ic_0 ?_
  refine n_istore_n (i := 1) (vs' := [some (.ref (yb_ad G 176)), some (.int (0 : Int32))]) dX12_reads_6 rfl (Nat.le_of_ble_eq_true rfl) rfl rfl ?_
  exact p_jump (tl_X12_reads_7 h) (And.intro rfl (And.intro rfl trivial))
set_option maxHeartbeats 4000000 in
set_option maxRecDepth 20000 in
theorem t_X12_fault {G : yb_G} {X : List (FieldType × Nat)} {s : yb_S} {out : (Int32 × yb_S)} (h : f_X12_fault s = some out) : Ct G yX12_fault cX12_fault 1 (Option.some .int) (yb_rm 252) [.ref (yb_ad G 176)] (yb_mk s X) (yb_qi X out.2 out.1) := by
  refine Ct.of (own := RX12) (ini := false) (vs := [some (.ref (yb_ad G 176))]) ⟨rfl, by decide +kernel⟩ (fun h => by cases h) (Nat.le_of_ble_eq_true rfl) rfl ?_
  unfold f_X12_fault at h
  refine n_aload_n (i := 0) dX12_fault_0 rfl rfl ?_
  obtain ⟨q1, hq1, h⟩ := yb_bind h
  refine p_callVv (As := []) (t_X12_reads hq1) cv_X12_437 (sh_176 _ _) rfl rfl (Nat.le_of_ble_eq_true rfl) dX12_fault_1 (yb_rok (Nat.le_of_ble_eq_true rfl) (by decide)) ⟨rfl, rfl⟩ ⟨Nat.le_refl _, Nat.le_refl _⟩ (fun k2 => ?_)
  refine n_aload_n (i := 0) dX12_fault_4 rfl rfl ?_
  refine p_geti fl_X12_373 (sh_176 _ _) rfl dX12_fault_5 ?_
  cases h
  exact n_iret dX12_fault_8 rfl rfl (Nat.le_refl _) (Nat.le_refl _) ⟨rfl, rfl⟩
set_option maxHeartbeats 4000000 in
set_option maxRecDepth 20000 in
theorem t_l_X12_feeds_2 {G : yb_G} {X : List (FieldType × Nat)} {x1 : Int32} {out : yb_S} : ∀ (k0 : Nat) (x2 : Int32) (s : yb_S), l_X12_feeds_2 x1 k0 x2 s = some out → Rn G RX12 cX12_feeds 3 none false (yb_rm 1) (yb_qv X out) 0 0 2 [some (.ref (yb_ad G 176)), some (.int x1), some (.int x2)] [] (yb_mk s X) := by
  intro k0
  induction k0 with
  | zero => intro x2 s h; cases h
  | succ k0 ih =>
    intro x2 s h
    have h : f_X12_feeds_2 (fun x2 s => l_X12_feeds_2 x1 k0 x2 s) x1 x2 s = some out := h
    have hrc2 := ih
    unfold f_X12_feeds_2 at h
    refine n_iload_n (i := 2) dX12_feeds_2 rfl rfl ?_
    refine n_if_lt 38 dX12_feeds_3 (by decide) (fun c1 => ?_) (fun c1 => ?_)
    · have h := yb_ifp c1 h
      cases h
      exact n_vret dX12_feeds_38 rfl (Nat.le_refl _) (Nat.le_refl _) ⟨rfl, rfl⟩
    · have h := yb_ifn c1 h
      refine n_aload_n (i := 0) dX12_feeds_6 rfl rfl ?_
      refine p_getr fl_X12_119 (sh_176 _ _) rfl (rR_176_43 _ _) dX12_feeds_7 ?_
      refine n_aload_n (i := 0) dX12_feeds_10 rfl rfl ?_
      refine p_geti fl_X12_343 (sh_176 _ _) rfl dX12_feeds_11 ?_
      refine n_iload_n (i := 1) dX12_feeds_14 rfl rfl ?_
      refine n_bipush (8 : Int32) dX12_feeds_15 bp_8 ?_
      refine n_iload_n (i := 2) dX12_feeds_17 rfl rfl ?_
      refine n_imul dX12_feeds_18 ?_
      refine n_iushr dX12_feeds_19 ?_
      refine n_i2b dX12_feeds_20 ?_
      obtain ⟨s2, hs2, h⟩ := yb_bind h
      refine p_bast hs2 (sh_242 _ _) dX12_feeds_21 ?_
      refine n_aload_n (i := 0) dX12_feeds_22 rfl rfl ?_
      refine n_dup dX12_feeds_23 rfl ?_
      refine p_geti fl_X12_343 (sh_176 _ _) rfl dX12_feeds_24 ?_
      refine n_iconst (1 : Int32) dX12_feeds_27 ic_1 ?_
      refine n_iadd dX12_feeds_28 ?_
      obtain ⟨s3, hs3, h⟩ := yb_bind h
      refine p_puti hs3 fp_X12_343 (sh_176 _ _) rfl rfl rfl dX12_feeds_29 ?_
      refine n_iinc (vs' := [some (.ref (yb_ad G 176)), some (.int x1), some (.int (x2 + (-1 : Int32)))]) dX12_feeds_32 rfl (ii_m1 _) (Nat.le_of_ble_eq_true rfl) rfl rfl ?_
      refine n_goto 2 dX12_feeds_35 (by decide) ?_
      exact p_jump (hrc2 (x2 + (-1 : Int32)) s3 h) (And.intro rfl (And.intro rfl (And.intro rfl trivial)))
set_option maxHeartbeats 4000000 in
set_option maxRecDepth 20000 in
theorem tl_X12_feeds_2 {G : yb_G} {X : List (FieldType × Nat)} {x1 : Int32} {out : yb_S} {x2 : Int32} {s : yb_S} (h : l_X12_feeds_2 x1 yb_N x2 s = some out) : Rn G RX12 cX12_feeds 3 none false (yb_rm 1) (yb_qv X out) 0 0 2 [some (.ref (yb_ad G 176)), some (.int x1), some (.int x2)] [] (yb_mk s X) := t_l_X12_feeds_2 _ _ _ h
set_option maxHeartbeats 4000000 in
set_option maxRecDepth 20000 in
theorem t_X12_feeds {G : yb_G} {X : List (FieldType × Nat)} {a1 : Int32} {s : yb_S} {out : yb_S} (h : f_X12_feeds a1 s = some out) : Ct G yX12_feeds cX12_feeds 3 none (yb_rm 1) [.ref (yb_ad G 176), .int a1] (yb_mk s X) (yb_qv X out) := by
  refine Ct.of (own := RX12) (ini := false) (vs := [some (.ref (yb_ad G 176)), some (.int a1), none]) ⟨rfl, by decide +kernel⟩ (fun h => by cases h) (Nat.le_of_ble_eq_true rfl) rfl ?_
  unfold f_X12_feeds at h
  refine n_iconst (3 : Int32) dX12_feeds_0 ic_3 ?_
  refine n_istore_n (i := 2) (vs' := [some (.ref (yb_ad G 176)), some (.int a1), some (.int (3 : Int32))]) dX12_feeds_1 rfl (Nat.le_of_ble_eq_true rfl) rfl rfl ?_
  exact p_jump (tl_X12_feeds_2 h) (And.intro rfl (And.intro rfl (And.intro rfl trivial)))
set_option maxHeartbeats 4000000 in
set_option maxRecDepth 20000 in
theorem t_X12_feed {G : yb_G} {X : List (FieldType × Nat)} {a1 : Int32} {a2 : Int32} {a3 : Int32} {a4 : Int32} {a5 : Int32} {s : yb_S} {out : (Int32 × yb_S)} (h : f_X12_feed a1 a2 a3 a4 a5 s = some out) : Ct G yX12_feed cX12_feed 6 (Option.some .int) (yb_rm 2) [.ref (yb_ad G 176), .int a1, .int a2, .int a3, .int a4, .int a5] (yb_mk s X) (yb_qi X out.2 out.1) := by
  refine Ct.of (own := RX12) (ini := false) (vs := [some (.ref (yb_ad G 176)), some (.int a1), some (.int a2), some (.int a3), some (.int a4), some (.int a5)]) ⟨rfl, by decide +kernel⟩ (fun h => by cases h) (Nat.le_of_ble_eq_true rfl) rfl ?_
  unfold f_X12_feed at h
  refine n_aload_n (i := 0) dX12_feed_0 rfl rfl ?_
  refine p_geti fl_X12_343 (sh_176 _ _) rfl dX12_feed_1 ?_
  refine n_bipush (20 : Int32) dX12_feed_4 bp_20 ?_
  refine n_iadd dX12_feed_6 ?_
  refine n_sipush (500 : Int32) dX12_feed_7 sp_500 ?_
  refine n_icmp_le 15 dX12_feed_10 (by decide) (fun c1 => ?_) (fun c1 => ?_)
  · have h := yb_ifp c1 h
    refine n_aload_n (i := 0) dX12_feed_15 rfl rfl ?_
    refine n_iload_n (i := 1) dX12_feed_16 rfl rfl ?_
    obtain ⟨q2, hq2, h⟩ := yb_bind h
    refine p_callVv (As := [.int a1]) (t_X12_feeds hq2) cv_X12_346 (sh_176 _ _) rfl rfl (Nat.le_of_ble_eq_true rfl) dX12_feed_17 (yb_rok (Nat.le_of_ble_eq_true rfl) (by decide)) ⟨rfl, rfl⟩ ⟨Nat.le_refl _, Nat.le_refl _⟩ (fun k3 => ?_)
    refine n_aload_n (i := 0) dX12_feed_20 rfl rfl ?_
    refine n_iload_n (i := 2) dX12_feed_21 rfl rfl ?_
    obtain ⟨q4, hq4, h⟩ := yb_bind h
    refine p_callVv (As := [.int a2]) (t_X12_feeds hq4) cv_X12_346 (sh_176 _ _) rfl rfl (Nat.le_of_ble_eq_true rfl) dX12_feed_22 (yb_rok (Nat.le_of_ble_eq_true rfl) (by decide)) ⟨rfl, rfl⟩ ⟨Nat.le_refl _, Nat.le_refl _⟩ (fun k5 => ?_)
    refine n_aload_n (i := 0) dX12_feed_25 rfl rfl ?_
    refine n_iload_n (i := 3) dX12_feed_26 rfl rfl ?_
    obtain ⟨q6, hq6, h⟩ := yb_bind h
    refine p_callVv (As := [.int a3]) (t_X12_feeds hq6) cv_X12_346 (sh_176 _ _) rfl rfl (Nat.le_of_ble_eq_true rfl) dX12_feed_27 (yb_rok (Nat.le_of_ble_eq_true rfl) (by decide)) ⟨rfl, rfl⟩ ⟨Nat.le_refl _, Nat.le_refl _⟩ (fun k7 => ?_)
    refine n_aload_n (i := 0) dX12_feed_30 rfl rfl ?_
    refine n_iload dX12_feed_31 rfl ?_
    obtain ⟨q8, hq8, h⟩ := yb_bind h
    refine p_callVv (As := [.int a4]) (t_X12_feeds hq8) cv_X12_346 (sh_176 _ _) rfl rfl (Nat.le_of_ble_eq_true rfl) dX12_feed_33 (yb_rok (Nat.le_of_ble_eq_true rfl) (by decide)) ⟨rfl, rfl⟩ ⟨Nat.le_refl _, Nat.le_refl _⟩ (fun k9 => ?_)
    refine n_aload_n (i := 0) dX12_feed_36 rfl rfl ?_
    refine n_iload dX12_feed_37 rfl ?_
    obtain ⟨q10, hq10, h⟩ := yb_bind h
    refine p_callVv (As := [.int a5]) (t_X12_feeds hq10) cv_X12_346 (sh_176 _ _) rfl rfl (Nat.le_of_ble_eq_true rfl) dX12_feed_39 (yb_rok (Nat.le_of_ble_eq_true rfl) (by decide)) ⟨rfl, rfl⟩ ⟨Nat.le_refl _, Nat.le_refl _⟩ (fun k11 => ?_)
    refine n_aload_n (i := 0) dX12_feed_42 rfl rfl ?_
    refine p_geti fl_X12_343 (sh_176 _ _) rfl dX12_feed_43 ?_
    cases h
    exact n_iret dX12_feed_46 rfl rfl (Nat.le_refl _) (Nat.le_refl _) ⟨rfl, rfl⟩
  · have h := yb_ifn c1 h
    refine n_iconst (-1 : Int32) dX12_feed_13 ic_m1 ?_
    cases h
    exact n_iret dX12_feed_14 rfl rfl (Nat.le_refl _) (Nat.le_refl _) ⟨rfl, rfl⟩
set_option maxHeartbeats 4000000 in
set_option maxRecDepth 20000 in
theorem t_X12_finds {G : yb_G} {X : List (FieldType × Nat)} {a1 : Int32} {a2 : Int32} {s : yb_S} {out : (Int32 × yb_S)} (h : f_X12_finds a1 a2 s = some out) : Ct G yX12_finds cX12_finds 3 (Option.some .int) (yb_rm 5) [.ref (yb_ad G 176), .int a1, .int a2] (yb_mk s X) (yb_qi X out.2 out.1) := by
  refine Ct.of (own := RX12) (ini := false) (vs := [some (.ref (yb_ad G 176)), some (.int a1), some (.int a2)]) ⟨rfl, by decide +kernel⟩ (fun h => by cases h) (Nat.le_of_ble_eq_true rfl) rfl ?_
  unfold f_X12_finds at h
  refine n_aload_n (i := 0) dX12_finds_0 rfl rfl ?_
  refine n_iload_n (i := 1) dX12_finds_1 rfl rfl ?_
  obtain ⟨q1, hq1, h⟩ := yb_bind h
  refine p_callVi (As := [.int a1]) (t_X12_isFamily hq1) cv_X12_282 (sh_176 _ _) rfl rfl (Nat.le_of_ble_eq_true rfl) dX12_finds_2 (yb_rok (Nat.le_of_ble_eq_true rfl) (by decide)) ⟨rfl, rfl⟩ ⟨Nat.le_refl _, Nat.le_refl _⟩ (fun k2 => ?_)
  refine n_if_eq 25 dX12_finds_5 (by decide) (fun c3 => ?_) (fun c3 => ?_)
  · have h := yb_ifp c3 h
    refine n_iconst (-1 : Int32) dX12_finds_25 ic_m1 ?_
    cases h
    exact n_iret dX12_finds_26 rfl rfl (Nat.le_refl _) (Nat.le_refl _) ⟨rfl, rfl⟩
  · have h := yb_ifn c3 h
    refine n_aload_n (i := 0) dX12_finds_8 rfl rfl ?_
    refine n_iload_n (i := 2) dX12_finds_9 rfl rfl ?_
    obtain ⟨q4, hq4, h⟩ := yb_bind h
    refine p_callVi (As := [.int a2]) (t_X12_isFamily hq4) cv_X12_282 (sh_176 _ _) rfl rfl (Nat.le_of_ble_eq_true rfl) dX12_finds_10 (yb_rok (Nat.le_of_ble_eq_true rfl) (by decide)) ⟨rfl, rfl⟩ ⟨Nat.le_refl _, Nat.le_refl _⟩ (fun k5 => ?_)
    refine n_if_eq 25 dX12_finds_13 (by decide) (fun c6 => ?_) (fun c6 => ?_)
    · have h := yb_ifp c6 h
      refine n_iconst (-1 : Int32) dX12_finds_25 ic_m1 ?_
      cases h
      exact n_iret dX12_finds_26 rfl rfl (Nat.le_refl _) (Nat.le_refl _) ⟨rfl, rfl⟩
    · have h := yb_ifn c6 h
      refine n_aload_n (i := 0) dX12_finds_16 rfl rfl ?_
      refine n_iload_n (i := 1) dX12_finds_17 rfl rfl ?_
      refine n_iload_n (i := 2) dX12_finds_18 rfl rfl ?_
      obtain ⟨q7, hq7, h⟩ := yb_bind h
      refine p_callVi (As := [.int a1, .int a2]) (t_X12_surely hq7) cv_X12_337 (sh_176 _ _) rfl rfl (Nat.le_of_ble_eq_true rfl) dX12_finds_19 (yb_rok (Nat.le_of_ble_eq_true rfl) (by decide)) ⟨rfl, rfl⟩ ⟨Nat.le_refl _, Nat.le_refl _⟩ (fun k8 => ?_)
      refine n_goto 26 dX12_finds_22 (by decide) ?_
      cases h
      exact n_iret dX12_finds_26 rfl rfl (Nat.le_refl _) (Nat.le_refl _) ⟨rfl, rfl⟩
