/-! WALKS: the machine follows the functions, piece 6 of 7 -/
set_option maxHeartbeats 4000000 in
set_option maxRecDepth 20000 in
theorem t_l_X12_factor_105 {G : yb_G} {X : List (FieldType × Nat)} {r_X12_factor : (Int32 → yb_S → Option (Int32 × yb_S))} {r_X12_product : (Int32 → yb_S → Option (Int32 × yb_S))} {r_X12_sum : (Int32 → yb_S → Option (Int32 × yb_S))} {n : Nat} {s : yb_S} {out : (Int32 × yb_S)} (H_X12_factor : ∀ (a1 : Int32) (s : yb_S) (out : (Int32 × yb_S)), r_X12_factor a1 s = some out → Ct G yX12_factor cX12_factor 3 (Option.some .boolean) (yb_rm (8 + n)) [.ref (yb_ad G 176), .int a1] (yb_mk s X) (yb_qi X out.2 out.1)) (H_X12_product : ∀ (a1 : Int32) (s : yb_S) (out : (Int32 × yb_S)), r_X12_product a1 s = some out → Ct G yX12_product cX12_product 3 (Option.some .boolean) (yb_rm (8 + n)) [.ref (yb_ad G 176), .int a1] (yb_mk s X) (yb_qi X out.2 out.1)) (H_X12_sum : ∀ (a1 : Int32) (s : yb_S) (out : (Int32 × yb_S)), r_X12_sum a1 s = some out → Ct G yX12_sum cX12_sum 3 (Option.some .boolean) (yb_rm (8 + n)) [.ref (yb_ad G 176), .int a1] (yb_mk s X) (yb_qi X out.2 out.1)) : ∀ (k0 : Nat) (x2 : Int32), l_X12_factor_105 r_X12_factor r_X12_product r_X12_sum s k0 x2 = some out → Rn G RX12 cX12_factor 3 (Option.some .boolean) false (yb_rm (9 + n)) (yb_qi X out.2 out.1) 0 0 105 [some (.ref (yb_ad G 176)), none, some (.int x2)] [] (yb_mk s X) := by
  intro k0
  induction k0 with
  | zero => intro x2 h; cases h
  | succ k0 ih =>
    intro x2 h
    have h : f_X12_factor_105 r_X12_factor r_X12_product r_X12_sum (fun x2 => l_X12_factor_105 r_X12_factor r_X12_product r_X12_sum s k0 x2) s x2 = some out := h
    have hrc105 := ih
    unfold f_X12_factor_105 at h
    refine n_iload_n (i := 2) dX12_factor_105 rfl rfl ?_
    refine n_bipush (18 : Int32) dX12_factor_106 bp_18 ?_
    refine n_icmp_ge 154 dX12_factor_108 (by decide) (fun c7 => ?_) (fun c7 => ?_)
    · have h := yb_ifp c7 h
      refine n_aload_n (i := 0) dX12_factor_154 rfl rfl ?_
      obtain ⟨q8, hq8, h⟩ := yb_bind h
      refine p_callVi (As := []) (t_X12_fails hq8) cv_X12_376 (sh_176 _ _) rfl rfl (Nat.le_of_ble_eq_true rfl) dX12_factor_155 (yb_rok (by omega) (by decide)) ⟨rfl, rfl⟩ ⟨Nat.le_refl _, Nat.le_refl _⟩ (fun k9 => ?_)
      cases h
      exact n_iret dX12_factor_158 rfl (yb_okv_b k9) (Nat.le_refl _) (Nat.le_refl _) ⟨rfl, rfl⟩
    · have h := yb_ifn c7 h
      refine n_aload_n (i := 0) dX12_factor_111 rfl rfl ?_
      refine n_aload_n (i := 0) dX12_factor_112 rfl rfl ?_
      refine p_getr fl_X12_181 (sh_176 _ _) rfl (rR_176_57 _ _) dX12_factor_113 ?_
      refine n_iload_n (i := 2) dX12_factor_116 rfl rfl ?_
      obtain ⟨r10, hr10, h⟩ := yb_bind h
      refine p_aald hr10 (sh_336 _ _) (by decide) rfl (rF_336 _ _) dX12_factor_117 ?_
      obtain ⟨q11, hq11, h⟩ := yb_bind h
      refine p_callVi (As := [.ref (yb_ad G r10)]) (t_X12_isWord_str hq11) cv_X12_409 (sh_176 _ _) rfl rfl (Nat.le_of_ble_eq_true rfl) dX12_factor_118 (yb_rok (by omega) (by decide)) ⟨rfl, rfl⟩ ⟨Nat.le_refl _, Nat.le_refl _⟩ (fun k12 => ?_)
      refine n_if_eq 148 dX12_factor_121 (by decide) (fun c13 => ?_) (fun c13 => ?_)
      · have h := yb_ifp c13 h
        refine n_iinc (vs' := [some (.ref (yb_ad G 176)), none, some (.int (x2 + (1 : Int32)))]) dX12_factor_148 rfl (ii_1 _) (Nat.le_of_ble_eq_true rfl) rfl rfl ?_
        refine n_goto 105 dX12_factor_151 (by decide) ?_
        exact p_jump (hrc105 (x2 + (1 : Int32)) h) (And.intro rfl (And.intro rfl trivial))
      · have h := yb_ifn c13 h
        refine n_aload_n (i := 0) dX12_factor_124 rfl rfl ?_
        refine n_iconst (1 : Int32) dX12_factor_125 ic_1 ?_
        obtain ⟨q14, hq14, h⟩ := yb_bind h
        refine p_callVi (As := [.int (1 : Int32)]) (t_X12_passes hq14) cv_X12_397 (sh_176 _ _) rfl rfl (Nat.le_of_ble_eq_true rfl) dX12_factor_126 (yb_rok (by omega) (by decide)) ⟨rfl, rfl⟩ ⟨Nat.le_refl _, Nat.le_refl _⟩ (fun k15 => ?_)
        refine n_if_eq 146 dX12_factor_129 (by decide) (fun c16 => ?_) (fun c16 => ?_)
        · have h := yb_ifp c16 h
          refine n_iconst (0 : Int32) dX12_factor_146 ic_0 ?_
          cases h
          exact n_iret dX12_factor_147 rfl (by decide) (Nat.le_refl _) (Nat.le_refl _) ⟨rfl, rfl⟩
        · have h := yb_ifn c16 h
          refine n_aload_n (i := 0) dX12_factor_132 rfl rfl ?_
          refine n_bipush (118 : Int32) dX12_factor_133 bp_118 ?_
          refine n_iload_n (i := 2) dX12_factor_135 rfl rfl ?_
          obtain ⟨q17, hq17, h⟩ := yb_bind h
          refine p_callVi (As := [.int (118 : Int32), .int x2]) (t_X12_puts hq17) cv_X12_406 (sh_176 _ _) rfl rfl (Nat.le_of_ble_eq_true rfl) dX12_factor_136 (yb_rok (by omega) (by decide)) ⟨rfl, rfl⟩ ⟨Nat.le_refl _, Nat.le_refl _⟩ (fun k18 => ?_)
          refine n_if_eq 146 dX12_factor_139 (by decide) (fun c19 => ?_) (fun c19 => ?_)
          · have h := yb_ifp c19 h
            refine n_iconst (0 : Int32) dX12_factor_146 ic_0 ?_
            cases h
            exact n_iret dX12_factor_147 rfl (by decide) (Nat.le_refl _) (Nat.le_refl _) ⟨rfl, rfl⟩
          · have h := yb_ifn c19 h
            refine n_iconst (1 : Int32) dX12_factor_142 ic_1 ?_
            refine n_goto 147 dX12_factor_143 (by decide) ?_
            cases h
            exact n_iret dX12_factor_147 rfl (by decide) (Nat.le_refl _) (Nat.le_refl _) ⟨rfl, rfl⟩
set_option maxHeartbeats 4000000 in
set_option maxRecDepth 20000 in
theorem tl_X12_factor_105 {G : yb_G} {X : List (FieldType × Nat)} {r_X12_factor : (Int32 → yb_S → Option (Int32 × yb_S))} {r_X12_product : (Int32 → yb_S → Option (Int32 × yb_S))} {r_X12_sum : (Int32 → yb_S → Option (Int32 × yb_S))} {n : Nat} {s : yb_S} {out : (Int32 × yb_S)} (H_X12_factor : ∀ (a1 : Int32) (s : yb_S) (out : (Int32 × yb_S)), r_X12_factor a1 s = some out → Ct G yX12_factor cX12_factor 3 (Option.some .boolean) (yb_rm (8 + n)) [.ref (yb_ad G 176), .int a1] (yb_mk s X) (yb_qi X out.2 out.1)) (H_X12_product : ∀ (a1 : Int32) (s : yb_S) (out : (Int32 × yb_S)), r_X12_product a1 s = some out → Ct G yX12_product cX12_product 3 (Option.some .boolean) (yb_rm (8 + n)) [.ref (yb_ad G 176), .int a1] (yb_mk s X) (yb_qi X out.2 out.1)) (H_X12_sum : ∀ (a1 : Int32) (s : yb_S) (out : (Int32 × yb_S)), r_X12_sum a1 s = some out → Ct G yX12_sum cX12_sum 3 (Option.some .boolean) (yb_rm (8 + n)) [.ref (yb_ad G 176), .int a1] (yb_mk s X) (yb_qi X out.2 out.1)) {x2 : Int32} (h : l_X12_factor_105 r_X12_factor r_X12_product r_X12_sum s yb_N x2 = some out) : Rn G RX12 cX12_factor 3 (Option.some .boolean) false (yb_rm (9 + n)) (yb_qi X out.2 out.1) 0 0 105 [some (.ref (yb_ad G 176)), none, some (.int x2)] [] (yb_mk s X) := t_l_X12_factor_105 H_X12_factor H_X12_product H_X12_sum _ _ h
set_option maxHeartbeats 4000000 in
set_option maxRecDepth 20000 in
theorem tj_X12_factor_81 {G : yb_G} {X : List (FieldType × Nat)} {r_X12_factor : (Int32 → yb_S → Option (Int32 × yb_S))} {r_X12_product : (Int32 → yb_S → Option (Int32 × yb_S))} {r_X12_sum : (Int32 → yb_S → Option (Int32 × yb_S))} {n : Nat} {x2 : Int32} {y0 : Int32} {s : yb_S} {out : (Int32 × yb_S)} (H_X12_factor : ∀ (a1 : Int32) (s : yb_S) (out : (Int32 × yb_S)), r_X12_factor a1 s = some out → Ct G yX12_factor cX12_factor 3 (Option.some .boolean) (yb_rm (8 + n)) [.ref (yb_ad G 176), .int a1] (yb_mk s X) (yb_qi X out.2 out.1)) (H_X12_product : ∀ (a1 : Int32) (s : yb_S) (out : (Int32 × yb_S)), r_X12_product a1 s = some out → Ct G yX12_product cX12_product 3 (Option.some .boolean) (yb_rm (8 + n)) [.ref (yb_ad G 176), .int a1] (yb_mk s X) (yb_qi X out.2 out.1)) (H_X12_sum : ∀ (a1 : Int32) (s : yb_S) (out : (Int32 × yb_S)), r_X12_sum a1 s = some out → Ct G yX12_sum cX12_sum 3 (Option.some .boolean) (yb_rm (8 + n)) [.ref (yb_ad G 176), .int a1] (yb_mk s X) (yb_qi X out.2 out.1)) (h : j_X12_factor_81 r_X12_factor r_X12_product r_X12_sum x2 y0 s = some out) : Rn G RX12 cX12_factor 3 (Option.some .boolean) false (yb_rm (9 + n)) (yb_qi X out.2 out.1) 0 0 81 [some (.ref (yb_ad G 176)), none, some (.int x2)] [.int y0, .ref (yb_ad G 176)] (yb_mk s X) := by
  unfold j_X12_factor_81 at h
  obtain ⟨q21, hq21, h⟩ := yb_bind h
  refine p_callVi (As := [.int y0]) (t_X12_passes hq21) cv_X12_397 (sh_176 _ _) rfl rfl (Nat.le_of_ble_eq_true rfl) dX12_factor_81 (yb_rok (by omega) (by decide)) ⟨rfl, rfl⟩ ⟨Nat.le_refl _, Nat.le_refl _⟩ (fun k22 => ?_)
  refine n_if_eq 101 dX12_factor_84 (by decide) (fun c23 => ?_) (fun c23 => ?_)
  · have h := yb_ifp c23 h
    refine n_iconst (0 : Int32) dX12_factor_101 ic_0 ?_
    cases h
    exact n_iret dX12_factor_102 rfl (by decide) (Nat.le_refl _) (Nat.le_refl _) ⟨rfl, rfl⟩
  · have h := yb_ifn c23 h
    refine n_aload_n (i := 0) dX12_factor_87 rfl rfl ?_
    refine n_bipush (110 : Int32) dX12_factor_88 bp_110 ?_
    refine n_iload_n (i := 2) dX12_factor_90 rfl rfl ?_
    obtain ⟨q24, hq24, h⟩ := yb_bind h
    refine p_callVi (As := [.int (110 : Int32), .int x2]) (t_X12_puts hq24) cv_X12_406 (sh_176 _ _) rfl rfl (Nat.le_of_ble_eq_true rfl) dX12_factor_91 (yb_rok (by omega) (by decide)) ⟨rfl, rfl⟩ ⟨Nat.le_refl _, Nat.le_refl _⟩ (fun k25 => ?_)
    refine n_if_eq 101 dX12_factor_94 (by decide) (fun c26 => ?_) (fun c26 => ?_)
    · have h := yb_ifp c26 h
      refine n_iconst (0 : Int32) dX12_factor_101 ic_0 ?_
      cases h
      exact n_iret dX12_factor_102 rfl (by decide) (Nat.le_refl _) (Nat.le_refl _) ⟨rfl, rfl⟩
    · have h := yb_ifn c26 h
      refine n_iconst (1 : Int32) dX12_factor_97 ic_1 ?_
      refine n_goto 102 dX12_factor_98 (by decide) ?_
      cases h
      exact n_iret dX12_factor_102 rfl (by decide) (Nat.le_refl _) (Nat.le_refl _) ⟨rfl, rfl⟩
set_option maxHeartbeats 4000000 in
set_option maxRecDepth 20000 in
theorem tj_X12_factor_21 {G : yb_G} {X : List (FieldType × Nat)} {r_X12_factor : (Int32 → yb_S → Option (Int32 × yb_S))} {r_X12_product : (Int32 → yb_S → Option (Int32 × yb_S))} {r_X12_sum : (Int32 → yb_S → Option (Int32 × yb_S))} {n : Nat} {x1 : Int32} {y0 : Int32} {s : yb_S} {out : (Int32 × yb_S)} (H_X12_factor : ∀ (a1 : Int32) (s : yb_S) (out : (Int32 × yb_S)), r_X12_factor a1 s = some out → Ct G yX12_factor cX12_factor 3 (Option.some .boolean) (yb_rm (8 + n)) [.ref (yb_ad G 176), .int a1] (yb_mk s X) (yb_qi X out.2 out.1)) (H_X12_product : ∀ (a1 : Int32) (s : yb_S) (out : (Int32 × yb_S)), r_X12_product a1 s = some out → Ct G yX12_product cX12_product 3 (Option.some .boolean) (yb_rm (8 + n)) [.ref (yb_ad G 176), .int a1] (yb_mk s X) (yb_qi X out.2 out.1)) (H_X12_sum : ∀ (a1 : Int32) (s : yb_S) (out : (Int32 × yb_S)), r_X12_sum a1 s = some out → Ct G yX12_sum cX12_sum 3 (Option.some .boolean) (yb_rm (8 + n)) [.ref (yb_ad G 176), .int a1] (yb_mk s X) (yb_qi X out.2 out.1)) (h : j_X12_factor_21 r_X12_factor r_X12_product r_X12_sum x1 y0 s = some out) : Rn G RX12 cX12_factor 3 (Option.some .boolean) false (yb_rm (9 + n)) (yb_qi X out.2 out.1) 0 0 21 [some (.ref (yb_ad G 176)), some (.int x1), none] [.int y0, .ref (yb_ad G 176)] (yb_mk s X) := by
  unfold j_X12_factor_21 at h
  obtain ⟨q28, hq28, h⟩ := yb_bind h
  refine p_callVi (As := [.int y0]) (t_X12_passes hq28) cv_X12_397 (sh_176 _ _) rfl rfl (Nat.le_of_ble_eq_true rfl) dX12_factor_21 (yb_rok (by omega) (by decide)) ⟨rfl, rfl⟩ ⟨Nat.le_refl _, Nat.le_refl _⟩ (fun k29 => ?_)
  refine n_if_eq 54 dX12_factor_24 (by decide) (fun c30 => ?_) (fun c30 => ?_)
  · have h := yb_ifp c30 h
    refine n_iconst (0 : Int32) dX12_factor_54 ic_0 ?_
    cases h
    exact n_iret dX12_factor_55 rfl (by decide) (Nat.le_refl _) (Nat.le_refl _) ⟨rfl, rfl⟩
  · have h := yb_ifn c30 h
    refine n_aload_n (i := 0) dX12_factor_27 rfl rfl ?_
    refine n_iload_n (i := 1) dX12_factor_28 rfl rfl ?_
    refine n_iconst (1 : Int32) dX12_factor_29 ic_1 ?_
    refine n_iadd dX12_factor_30 ?_
    obtain ⟨q31, hq31, h⟩ := yb_bind h
    refine p_callVi (As := [.int (x1 + (1 : Int32))]) (H_X12_sum (x1 + (1 : Int32)) _ _ hq31) cv_X12_401 (sh_176 _ _) rfl rfl (Nat.le_of_ble_eq_true rfl) dX12_factor_31 (yb_rok (by omega) (by decide)) ⟨rfl, rfl⟩ ⟨Nat.le_refl _, Nat.le_refl _⟩ (fun k32 => ?_)
    refine n_if_eq 54 dX12_factor_34 (by decide) (fun c33 => ?_) (fun c33 => ?_)
    · have h := yb_ifp c33 h
      refine n_iconst (0 : Int32) dX12_factor_54 ic_0 ?_
      cases h
      exact n_iret dX12_factor_55 rfl (by decide) (Nat.le_refl _) (Nat.le_refl _) ⟨rfl, rfl⟩
    · have h := yb_ifn c33 h
      refine n_aload_n (i := 0) dX12_factor_37 rfl rfl ?_
      refine n_aload_n (i := 0) dX12_factor_38 rfl rfl ?_
      refine n_bipush (41 : Int32) dX12_factor_39 bp_41 ?_
      obtain ⟨q34, hq34, h⟩ := yb_bind h
      refine p_callVi (As := [.int (41 : Int32)]) (t_X12_isSign hq34) cv_X12_394 (sh_176 _ _) rfl rfl (Nat.le_of_ble_eq_true rfl) dX12_factor_41 (yb_rok (by omega) (by decide)) ⟨rfl, rfl⟩ ⟨Nat.le_refl _, Nat.le_refl _⟩ (fun k35 => ?_)
      obtain ⟨q36, hq36, h⟩ := yb_bind h
      refine p_callVi (As := [.int q34]) (t_X12_passes hq36) cv_X12_397 (sh_176 _ _) rfl rfl (Nat.le_of_ble_eq_true rfl) dX12_factor_44 (yb_rok (by omega) (by decide)) ⟨rfl, rfl⟩ ⟨Nat.le_refl _, Nat.le_refl _⟩ (fun k37 => ?_)
      refine n_if_eq 54 dX12_factor_47 (by decide) (fun c38 => ?_) (fun c38 => ?_)
      · have h := yb_ifp c38 h
        refine n_iconst (0 : Int32) dX12_factor_54 ic_0 ?_
        cases h
        exact n_iret dX12_factor_55 rfl (by decide) (Nat.le_refl _) (Nat.le_refl _) ⟨rfl, rfl⟩
      · have h := yb_ifn c38 h
        refine n_iconst (1 : Int32) dX12_factor_50 ic_1 ?_
        refine n_goto 55 dX12_factor_51 (by decide) ?_
        cases h
        exact n_iret dX12_factor_55 rfl (by decide) (Nat.le_refl _) (Nat.le_refl _) ⟨rfl, rfl⟩
set_option maxHeartbeats 4000000 in
set_option maxRecDepth 20000 in
theorem t_X12_factor {G : yb_G} {X : List (FieldType × Nat)} {r_X12_factor : (Int32 → yb_S → Option (Int32 × yb_S))} {r_X12_product : (Int32 → yb_S → Option (Int32 × yb_S))} {r_X12_sum : (Int32 → yb_S → Option (Int32 × yb_S))} {n : Nat} {a1 : Int32} {s : yb_S} {out : (Int32 × yb_S)} (H_X12_factor : ∀ (a1 : Int32) (s : yb_S) (out : (Int32 × yb_S)), r_X12_factor a1 s = some out → Ct G yX12_factor cX12_factor 3 (Option.some .boolean) (yb_rm (8 + n)) [.ref (yb_ad G 176), .int a1] (yb_mk s X) (yb_qi X out.2 out.1)) (H_X12_product : ∀ (a1 : Int32) (s : yb_S) (out : (Int32 × yb_S)), r_X12_product a1 s = some out → Ct G yX12_product cX12_product 3 (Option.some .boolean) (yb_rm (8 + n)) [.ref (yb_ad G 176), .int a1] (yb_mk s X) (yb_qi X out.2 out.1)) (H_X12_sum : ∀ (a1 : Int32) (s : yb_S) (out : (Int32 × yb_S)), r_X12_sum a1 s = some out → Ct G yX12_sum cX12_sum 3 (Option.some .boolean) (yb_rm (8 + n)) [.ref (yb_ad G 176), .int a1] (yb_mk s X) (yb_qi X out.2 out.1)) (h : f_X12_factor r_X12_factor r_X12_product r_X12_sum a1 s = some out) : Ct G yX12_factor cX12_factor 3 (Option.some .boolean) (yb_rm (9 + n)) [.ref (yb_ad G 176), .int a1] (yb_mk s X) (yb_qi X out.2 out.1) := by
  refine Ct.of (own := RX12) (ini := false) (vs := [some (.ref (yb_ad G 176)), some (.int a1), none]) ⟨rfl, by decide +kernel⟩ (fun h => by cases h) (Nat.le_of_ble_eq_true rfl) rfl ?_
  unfold f_X12_factor at h
  refine n_aload_n (i := 0) dX12_factor_0 rfl rfl ?_
  refine n_bipush (40 : Int32) dX12_factor_1 bp_40 ?_
  obtain ⟨q1, hq1, h⟩ := yb_bind h
  refine p_callVi (As := [.int (40 : Int32)]) (t_X12_isSign hq1) cv_X12_394 (sh_176 _ _) rfl rfl (Nat.le_of_ble_eq_true rfl) dX12_factor_3 (yb_rok (by omega) (by decide)) ⟨rfl, rfl⟩ ⟨Nat.le_refl _, Nat.le_refl _⟩ (fun k2 => ?_)
  refine n_if_eq 56 dX12_factor_6 (by decide) (fun c3 => ?_) (fun c3 => ?_)
  · have h := yb_ifp c3 h
    refine n_aload_n (i := 0) dX12_factor_56 rfl rfl ?_
    obtain ⟨q4, hq4, h⟩ := yb_bind h
    refine p_callVi (As := []) (t_X12_isNumber hq4) cv_X12_403 (sh_176 _ _) rfl rfl (Nat.le_of_ble_eq_true rfl) dX12_factor_57 (yb_rok (by omega) (by decide)) ⟨rfl, rfl⟩ ⟨Nat.le_refl _, Nat.le_refl _⟩ (fun k5 => ?_)
    refine n_if_eq 103 dX12_factor_60 (by decide) (fun c6 => ?_) (fun c6 => ?_)
    · have h := yb_ifp c6 h
      refine n_iconst (0 : Int32) dX12_factor_103 ic_0 ?_
      refine n_istore_n (i := 2) (vs' := [some (.ref (yb_ad G 176)), some (.int a1), some (.int (0 : Int32))]) dX12_factor_104 rfl (Nat.le_of_ble_eq_true rfl) rfl rfl ?_
      exact p_jump (tl_X12_factor_105 H_X12_factor H_X12_product H_X12_sum h) (And.intro rfl (And.intro rfl trivial))
    · have h := yb_ifn c6 h
      refine n_aload_n (i := 0) dX12_factor_63 rfl rfl ?_
      refine p_geti fl_X12_389 (sh_176 _ _) rfl dX12_factor_64 ?_
      refine n_istore_n (i := 2) (vs' := [some (.ref (yb_ad G 176)), some (.int a1), some (.int (q4.2.1 176 49))]) dX12_factor_67 rfl (Nat.le_of_ble_eq_true rfl) rfl rfl ?_
      refine n_aload_n (i := 0) dX12_factor_68 rfl rfl ?_
      refine n_iload_n (i := 2) dX12_factor_69 rfl rfl ?_
      refine n_ldcw (99999 : Int32) k_X12_392 dX12_factor_70 ?_
      refine n_icmp_gt 80 dX12_factor_73 (by decide) (fun c20 => ?_) (fun c20 => ?_)
      · have h := yb_ifp c20 h
        refine n_iconst (0 : Int32) dX12_factor_80 ic_0 ?_
        exact p_jump (tj_X12_factor_81 H_X12_factor H_X12_product H_X12_sum h) (And.intro rfl (And.intro rfl trivial))
      · have h := yb_ifn c20 h
        refine n_iconst (1 : Int32) dX12_factor_76 ic_1 ?_
        refine n_goto 81 dX12_factor_77 (by decide) ?_
        exact p_jump (tj_X12_factor_81 H_X12_factor H_X12_product H_X12_sum h) (And.intro rfl (And.intro rfl trivial))
  · have h := yb_ifn c3 h
    refine n_aload_n (i := 0) dX12_factor_9 rfl rfl ?_
    refine n_iload_n (i := 1) dX12_factor_10 rfl rfl ?_
    refine n_bipush (8 : Int32) dX12_factor_11 bp_8 ?_
    refine n_icmp_ge 20 dX12_factor_13 (by decide) (fun c27 => ?_) (fun c27 => ?_)
    · have h := yb_ifp c27 h
      refine n_iconst (0 : Int32) dX12_factor_20 ic_0 ?_
      exact p_jump (tj_X12_factor_21 H_X12_factor H_X12_product H_X12_sum h) (And.intro rfl (And.intro rfl trivial))
    · have h := yb_ifn c27 h
      refine n_iconst (1 : Int32) dX12_factor_16 ic_1 ?_
      refine n_goto 21 dX12_factor_17 (by decide) ?_
      exact p_jump (tj_X12_factor_21 H_X12_factor H_X12_product H_X12_sum h) (And.intro rfl (And.intro rfl trivial))
set_option maxHeartbeats 4000000 in
set_option maxRecDepth 20000 in
theorem tj_X12_product_28 {G : yb_G} {X : List (FieldType × Nat)} {r_X12_factor : (Int32 → yb_S → Option (Int32 × yb_S))} {r_X12_product : (Int32 → yb_S → Option (Int32 × yb_S))} {r_X12_sum : (Int32 → yb_S → Option (Int32 × yb_S))} {n : Nat} {rc10 : (yb_S → Option (Int32 × yb_S))} {x1 : Int32} {s : yb_S} {out : (Int32 × yb_S)} (H_X12_factor : ∀ (a1 : Int32) (s : yb_S) (out : (Int32 × yb_S)), r_X12_factor a1 s = some out → Ct G yX12_factor cX12_factor 3 (Option.some .boolean) (yb_rm (8 + n)) [.ref (yb_ad G 176), .int a1] (yb_mk s X) (yb_qi X out.2 out.1)) (H_X12_product : ∀ (a1 : Int32) (s : yb_S) (out : (Int32 × yb_S)), r_X12_product a1 s = some out → Ct G yX12_product cX12_product 3 (Option.some .boolean) (yb_rm (8 + n)) [.ref (yb_ad G 176), .int a1] (yb_mk s X) (yb_qi X out.2 out.1)) (H_X12_sum : ∀ (a1 : Int32) (s : yb_S) (out : (Int32 × yb_S)), r_X12_sum a1 s = some out → Ct G yX12_sum cX12_sum 3 (Option.some .boolean) (yb_rm (8 + n)) [.ref (yb_ad G 176), .int a1] (yb_mk s X) (yb_qi X out.2 out.1)) (hrc10 : ∀ (s' : yb_S), rc10 s' = some out → Rn G RX12 cX12_product 3 (Option.some .boolean) false (yb_rm (9 + n)) (yb_qi X out.2 out.1) 0 0 10 [some (.ref (yb_ad G 176)), some (.int x1), none] [] (yb_mk s' X)) (h : j_X12_product_28 r_X12_factor r_X12_product r_X12_sum rc10 x1 s = some out) : Rn G RX12 cX12_product 3 (Option.some .boolean) false (yb_rm (9 + n)) (yb_qi X out.2 out.1) 0 0 28 [some (.ref (yb_ad G 176)), some (.int x1), none] [] (yb_mk s X) := by
  unfold j_X12_product_28 at h
  refine n_aload_n (i := 0) dX12_product_28 rfl rfl ?_
  refine p_getr fl_X12_119 (sh_176 _ _) rfl (rR_176_43 _ _) dX12_product_29 ?_
  refine n_aload_n (i := 0) dX12_product_32 rfl rfl ?_
  refine p_geti fl_X12_350 (sh_176 _ _) rfl dX12_product_33 ?_
  obtain ⟨v7, hv7, h⟩ := yb_bind h
  refine p_bald hv7 (sh_242 _ _) dX12_product_36 ?_
  refine n_istore_n (i := 2) (vs' := [some (.ref (yb_ad G 176)), some (.int x1), some (.int v7)]) dX12_product_37 rfl (Nat.le_of_ble_eq_true rfl) rfl rfl ?_
  refine n_aload_n (i := 0) dX12_product_38 rfl rfl ?_
  obtain ⟨q8, hq8, h⟩ := yb_bind h
  refine p_callVv (As := []) (t_X12_goesOn hq8) cv_X12_380 (sh_176 _ _) rfl rfl (Nat.le_of_ble_eq_true rfl) dX12_product_39 (yb_rok (by omega) (by decide)) ⟨rfl, rfl⟩ ⟨Nat.le_refl _, Nat.le_refl _⟩ (fun k9 => ?_)
  refine n_aload_n (i := 0) dX12_product_42 rfl rfl ?_
  refine n_iload_n (i := 1) dX12_product_43 rfl rfl ?_
  obtain ⟨q10, hq10, h⟩ := yb_bind h
  refine p_callVi (As := [.int x1]) (H_X12_factor x1 _ _ hq10) cv_X12_413 (sh_176 _ _) rfl rfl (Nat.le_of_ble_eq_true rfl) dX12_product_44 (yb_rok (by omega) (by decide)) ⟨rfl, rfl⟩ ⟨Nat.le_refl _, Nat.le_refl _⟩ (fun k11 => ?_)
  refine n_if_ne 52 dX12_product_47 (by decide) (fun c12 => ?_) (fun c12 => ?_)
  · have h := yb_ifn c12 h
    refine n_aload_n (i := 0) dX12_product_52 rfl rfl ?_
    refine n_iload_n (i := 2) dX12_product_53 rfl rfl ?_
    refine n_iconst (0 : Int32) dX12_product_54 ic_0 ?_
    obtain ⟨q13, hq13, h⟩ := yb_bind h
    refine p_callVi (As := [.int v7, .int (0 : Int32)]) (t_X12_puts hq13) cv_X12_406 (sh_176 _ _) rfl rfl (Nat.le_of_ble_eq_true rfl) dX12_product_55 (yb_rok (by omega) (by decide)) ⟨rfl, rfl⟩ ⟨Nat.le_refl _, Nat.le_refl _⟩ (fun k14 => ?_)
    refine n_pop dX12_product_58 rfl ?_
    refine n_goto 10 dX12_product_59 (by decide) ?_
    exact p_jump (hrc10  q13.2 h) (And.intro rfl (And.intro rfl trivial))
  · have h := yb_ifp c12 h
    refine n_iconst (0 : Int32) dX12_product_50 ic_0 ?_
    cases h
    exact n_iret dX12_product_51 rfl (by decide) (Nat.le_refl _) (Nat.le_refl _) ⟨rfl, rfl⟩
set_option maxHeartbeats 4000000 in
set_option maxRecDepth 20000 in
theorem t_l_X12_product_10 {G : yb_G} {X : List (FieldType × Nat)} {r_X12_factor : (Int32 → yb_S → Option (Int32 × yb_S))} {r_X12_product : (Int32 → yb_S → Option (Int32 × yb_S))} {r_X12_sum : (Int32 → yb_S → Option (Int32 × yb_S))} {n : Nat} {x1 : Int32} {out : (Int32 × yb_S)} (H_X12_factor : ∀ (a1 : Int32) (s : yb_S) (out : (Int32 × yb_S)), r_X12_factor a1 s = some out → Ct G yX12_factor cX12_factor 3 (Option.some .boolean) (yb_rm (8 + n)) [.ref (yb_ad G 176), .int a1] (yb_mk s X) (yb_qi X out.2 out.1)) (H_X12_product : ∀ (a1 : Int32) (s : yb_S) (out : (Int32 × yb_S)), r_X12_product a1 s = some out → Ct G yX12_product cX12_product 3 (Option.some .boolean) (yb_rm (8 + n)) [.ref (yb_ad G 176), .int a1] (yb_mk s X) (yb_qi X out.2 out.1)) (H_X12_sum : ∀ (a1 : Int32) (s : yb_S) (out : (Int32 × yb_S)), r_X12_sum a1 s = some out → Ct G yX12_sum cX12_sum 3 (Option.some .boolean) (yb_rm (8 + n)) [.ref (yb_ad G 176), .int a1] (yb_mk s X) (yb_qi X out.2 out.1)) : ∀ (k0 : Nat) (s : yb_S), l_X12_product_10 r_X12_factor r_X12_product r_X12_sum x1 k0 s = some out → Rn G RX12 cX12_product 3 (Option.some .boolean) false (yb_rm (9 + n)) (yb_qi X out.2 out.1) 0 0 10 [some (.ref (yb_ad G 176)), some (.int x1), none] [] (yb_mk s X) := by
  intro k0
  induction k0 with
  | zero => intro s h; cases h
  | succ k0 ih =>
    intro s h
    have h : f_X12_product_10 r_X12_factor r_X12_product r_X12_sum (fun s => l_X12_product_10 r_X12_factor r_X12_product r_X12_sum x1 k0 s) x1 s = some out := h
    have hrc10 := ih
    unfold f_X12_product_10 at h
    refine n_aload_n (i := 0) dX12_product_10 rfl rfl ?_
    refine n_bipush (42 : Int32) dX12_product_11 bp_42 ?_
    obtain ⟨q4, hq4, h⟩ := yb_bind h
    refine p_callVi (As := [.int (42 : Int32)]) (t_X12_isSign hq4) cv_X12_394 (sh_176 _ _) rfl rfl (Nat.le_of_ble_eq_true rfl) dX12_product_13 (yb_rok (by omega) (by decide)) ⟨rfl, rfl⟩ ⟨Nat.le_refl _, Nat.le_refl _⟩ (fun k5 => ?_)
    refine n_if_ne 28 dX12_product_16 (by decide) (fun c6 => ?_) (fun c6 => ?_)
    · have h := yb_ifn c6 h
      exact p_jump (tj_X12_product_28 H_X12_factor H_X12_product H_X12_sum hrc10 h) (And.intro rfl (And.intro rfl trivial))
    · have h := yb_ifp c6 h
      refine n_aload_n (i := 0) dX12_product_19 rfl rfl ?_
      refine n_bipush (47 : Int32) dX12_product_20 bp_47 ?_
      obtain ⟨q15, hq15, h⟩ := yb_bind h
      refine p_callVi (As := [.int (47 : Int32)]) (t_X12_isSign hq15) cv_X12_394 (sh_176 _ _) rfl rfl (Nat.le_of_ble_eq_true rfl) dX12_product_22 (yb_rok (by omega) (by decide)) ⟨rfl, rfl⟩ ⟨Nat.le_refl _, Nat.le_refl _⟩ (fun k16 => ?_)
      refine n_if_eq 62 dX12_product_25 (by decide) (fun c17 => ?_) (fun c17 => ?_)
      · have h := yb_ifp c17 h
        refine n_iconst (1 : Int32) dX12_product_62 ic_1 ?_
        cases h
        exact n_iret dX12_product_63 rfl (by decide) (Nat.le_refl _) (Nat.le_refl _) ⟨rfl, rfl⟩
      · have h := yb_ifn c17 h
        exact p_jump (tj_X12_product_28 H_X12_factor H_X12_product H_X12_sum hrc10 h) (And.intro rfl (And.intro rfl trivial))
set_option maxHeartbeats 4000000 in
set_option maxRecDepth 20000 in
theorem tl_X12_product_10 {G : yb_G} {X : List (FieldType × Nat)} {r_X12_factor : (Int32 → yb_S → Option (Int32 × yb_S))} {r_X12_product : (Int32 → yb_S → Option (Int32 × yb_S))} {r_X12_sum : (Int32 → yb_S → Option (Int32 × yb_S))} {n : Nat} {x1 : Int32} {out : (Int32 × yb_S)} (H_X12_factor : ∀ (a1 : Int32) (s : yb_S) (out : (Int32 × yb_S)), r_X12_factor a1 s = some out → Ct G yX12_factor cX12_factor 3 (Option.some .boolean) (yb_rm (8 + n)) [.ref (yb_ad G 176), .int a1] (yb_mk s X) (yb_qi X out.2 out.1)) (H_X12_product : ∀ (a1 : Int32) (s : yb_S) (out : (Int32 × yb_S)), r_X12_product a1 s = some out → Ct G yX12_product cX12_product 3 (Option.some .boolean) (yb_rm (8 + n)) [.ref (yb_ad G 176), .int a1] (yb_mk s X) (yb_qi X out.2 out.1)) (H_X12_sum : ∀ (a1 : Int32) (s : yb_S) (out : (Int32 × yb_S)), r_X12_sum a1 s = some out → Ct G yX12_sum cX12_sum 3 (Option.some .boolean) (yb_rm (8 + n)) [.ref (yb_ad G 176), .int a1] (yb_mk s X) (yb_qi X out.2 out.1)) {s : yb_S} (h : l_X12_product_10 r_X12_factor r_X12_product r_X12_sum x1 yb_N s = some out) : Rn G RX12 cX12_product 3 (Option.some .boolean) false (yb_rm (9 + n)) (yb_qi X out.2 out.1) 0 0 10 [some (.ref (yb_ad G 176)), some (.int x1), none] [] (yb_mk s X) := t_l_X12_product_10 H_X12_factor H_X12_product H_X12_sum _ _ h
set_option maxHeartbeats 4000000 in
set_option maxRecDepth 20000 in
theorem t_X12_product {G : yb_G} {X : List (FieldType × Nat)} {r_X12_factor : (Int32 → yb_S → Option (Int32 × yb_S))} {r_X12_product : (Int32 → yb_S → Option (Int32 × yb_S))} {r_X12_sum : (Int32 → yb_S → Option (Int32 × yb_S))} {n : Nat} {a1 : Int32} {s : yb_S} {out : (Int32 × yb_S)} (H_X12_factor : ∀ (a1 : Int32) (s : yb_S) (out : (Int32 × yb_S)), r_X12_factor a1 s = some out → Ct G yX12_factor cX12_factor 3 (Option.some .boolean) (yb_rm (8 + n)) [.ref (yb_ad G 176), .int a1] (yb_mk s X) (yb_qi X out.2 out.1)) (H_X12_product : ∀ (a1 : Int32) (s : yb_S) (out : (Int32 × yb_S)), r_X12_product a1 s = some out → Ct G yX12_product cX12_product 3 (Option.some .boolean) (yb_rm (8 + n)) [.ref (yb_ad G 176), .int a1] (yb_mk s X) (yb_qi X out.2 out.1)) (H_X12_sum : ∀ (a1 : Int32) (s : yb_S) (out : (Int32 × yb_S)), r_X12_sum a1 s = some out → Ct G yX12_sum cX12_sum 3 (Option.some .boolean) (yb_rm (8 + n)) [.ref (yb_ad G 176), .int a1] (yb_mk s X) (yb_qi X out.2 out.1)) (h : f_X12_product r_X12_factor r_X12_product r_X12_sum a1 s = some out) : Ct G yX12_product cX12_product 3 (Option.some .boolean) (yb_rm (9 + n)) [.ref (yb_ad G 176), .int a1] (yb_mk s X) (yb_qi X out.2 out.1) := by
  refine Ct.of (own := RX12) (ini := false) (vs := [some (.ref (yb_ad G 176)), some (.int a1), none]) ⟨rfl, by decide +kernel⟩ (fun h => by cases h) (Nat.le_of_ble_eq_true rfl) rfl ?_
  unfold f_X12_product at h
  refine n_aload_n (i := 0) dX12_product_0 rfl rfl ?_
  refine n_iload_n (i := 1) dX12_product_1 rfl rfl ?_
  obtain ⟨q1, hq1, h⟩ := yb_bind h
  refine p_callVi (As := [.int a1]) (H_X12_factor a1 _ _ hq1) cv_X12_413 (sh_176 _ _) rfl rfl (Nat.le_of_ble_eq_true rfl) dX12_product_2 (yb_rok (by omega) (by decide)) ⟨rfl, rfl⟩ ⟨Nat.le_refl _, Nat.le_refl _⟩ (fun k2 => ?_)
  refine n_if_ne 10 dX12_product_5 (by decide) (fun c3 => ?_) (fun c3 => ?_)
  · have h := yb_ifn c3 h
    exact p_jump (tl_X12_product_10 H_X12_factor H_X12_product H_X12_sum h) (And.intro rfl (And.intro rfl trivial))
  · have h := yb_ifp c3 h
    refine n_iconst (0 : Int32) dX12_product_8 ic_0 ?_
    cases h
    exact n_iret dX12_product_9 rfl (by decide) (Nat.le_refl _) (Nat.le_refl _) ⟨rfl, rfl⟩
set_option maxHeartbeats 4000000 in
set_option maxRecDepth 20000 in
theorem tj_X12_sum_28 {G : yb_G} {X : List (FieldType × Nat)} {r_X12_factor : (Int32 → yb_S → Option (Int32 × yb_S))} {r_X12_product : (Int32 → yb_S → Option (Int32 × yb_S))} {r_X12_sum : (Int32 → yb_S → Option (Int32 × yb_S))} {n : Nat} {rc10 : (yb_S → Option (Int32 × yb_S))} {x1 : Int32} {s : yb_S} {out : (Int32 × yb_S)} (H_X12_factor : ∀ (a1 : Int32) (s : yb_S) (out : (Int32 × yb_S)), r_X12_factor a1 s = some out → Ct G yX12_factor cX12_factor 3 (Option.some .boolean) (yb_rm (8 + n)) [.ref (yb_ad G 176), .int a1] (yb_mk s X) (yb_qi X out.2 out.1)) (H_X12_product : ∀ (a1 : Int32) (s : yb_S) (out : (Int32 × yb_S)), r_X12_product a1 s = some out → Ct G yX12_product cX12_product 3 (Option.some .boolean) (yb_rm (8 + n)) [.ref (yb_ad G 176), .int a1] (yb_mk s X) (yb_qi X out.2 out.1)) (H_X12_sum : ∀ (a1 : Int32) (s : yb_S) (out : (Int32 × yb_S)), r_X12_sum a1 s = some out → Ct G yX12_sum cX12_sum 3 (Option.some .boolean) (yb_rm (8 + n)) [.ref (yb_ad G 176), .int a1] (yb_mk s X) (yb_qi X out.2 out.1)) (hrc10 : ∀ (s' : yb_S), rc10 s' = some out → Rn G RX12 cX12_sum 3 (Option.some .boolean) false (yb_rm (9 + n)) (yb_qi X out.2 out.1) 0 0 10 [some (.ref (yb_ad G 176)), some (.int x1), none] [] (yb_mk s' X)) (h : j_X12_sum_28 r_X12_factor r_X12_product r_X12_sum rc10 x1 s = some out) : Rn G RX12 cX12_sum 3 (Option.some .boolean) false (yb_rm (9 + n)) (yb_qi X out.2 out.1) 0 0 28 [some (.ref (yb_ad G 176)), some (.int x1), none] [] (yb_mk s X) := by
  unfold j_X12_sum_28 at h
  refine n_aload_n (i := 0) dX12_sum_28 rfl rfl ?_
  refine p_getr fl_X12_119 (sh_176 _ _) rfl (rR_176_43 _ _) dX12_sum_29 ?_
  refine n_aload_n (i := 0) dX12_sum_32 rfl rfl ?_
  refine p_geti fl_X12_350 (sh_176 _ _) rfl dX12_sum_33 ?_
  obtain ⟨v7, hv7, h⟩ := yb_bind h
  refine p_bald hv7 (sh_242 _ _) dX12_sum_36 ?_
  refine n_istore_n (i := 2) (vs' := [some (.ref (yb_ad G 176)), some (.int x1), some (.int v7)]) dX12_sum_37 rfl (Nat.le_of_ble_eq_true rfl) rfl rfl ?_
  refine n_aload_n (i := 0) dX12_sum_38 rfl rfl ?_
  obtain ⟨q8, hq8, h⟩ := yb_bind h
  refine p_callVv (As := []) (t_X12_goesOn hq8) cv_X12_380 (sh_176 _ _) rfl rfl (Nat.le_of_ble_eq_true rfl) dX12_sum_39 (yb_rok (by omega) (by decide)) ⟨rfl, rfl⟩ ⟨Nat.le_refl _, Nat.le_refl _⟩ (fun k9 => ?_)
  refine n_aload_n (i := 0) dX12_sum_42 rfl rfl ?_
  refine n_iload_n (i := 1) dX12_sum_43 rfl rfl ?_
  obtain ⟨q10, hq10, h⟩ := yb_bind h
  refine p_callVi (As := [.int x1]) (H_X12_product x1 _ _ hq10) cv_X12_416 (sh_176 _ _) rfl rfl (Nat.le_of_ble_eq_true rfl) dX12_sum_44 (yb_rok (by omega) (by decide)) ⟨rfl, rfl⟩ ⟨Nat.le_refl _, Nat.le_refl _⟩ (fun k11 => ?_)
  refine n_if_ne 52 dX12_sum_47 (by decide) (fun c12 => ?_) (fun c12 => ?_)
  · have h := yb_ifn c12 h
    refine n_aload_n (i := 0) dX12_sum_52 rfl rfl ?_
    refine n_iload_n (i := 2) dX12_sum_53 rfl rfl ?_
    refine n_iconst (0 : Int32) dX12_sum_54 ic_0 ?_
    obtain ⟨q13, hq13, h⟩ := yb_bind h
    refine p_callVi (As := [.int v7, .int (0 : Int32)]) (t_X12_puts hq13) cv_X12_406 (sh_176 _ _) rfl rfl (Nat.le_of_ble_eq_true rfl) dX12_sum_55 (yb_rok (by omega) (by decide)) ⟨rfl, rfl⟩ ⟨Nat.le_refl _, Nat.le_refl _⟩ (fun k14 => ?_)
    refine n_pop dX12_sum_58 rfl ?_
    refine n_goto 10 dX12_sum_59 (by decide) ?_
    exact p_jump (hrc10  q13.2 h) (And.intro rfl (And.intro rfl trivial))
  · have h := yb_ifp c12 h
    refine n_iconst (0 : Int32) dX12_sum_50 ic_0 ?_
    cases h
    exact n_iret dX12_sum_51 rfl (by decide) (Nat.le_refl _) (Nat.le_refl _) ⟨rfl, rfl⟩
set_option maxHeartbeats 4000000 in
set_option maxRecDepth 20000 in
theorem t_l_X12_sum_10 {G : yb_G} {X : List (FieldType × Nat)} {r_X12_factor : (Int32 → yb_S → Option (Int32 × yb_S))} {r_X12_product : (Int32 → yb_S → Option (Int32 × yb_S))} {r_X12_sum : (Int32 → yb_S → Option (Int32 × yb_S))} {n : Nat} {x1 : Int32} {out : (Int32 × yb_S)} (H_X12_factor : ∀ (a1 : Int32) (s : yb_S) (out : (Int32 × yb_S)), r_X12_factor a1 s = some out → Ct G yX12_factor cX12_factor 3 (Option.some .boolean) (yb_rm (8 + n)) [.ref (yb_ad G 176), .int a1] (yb_mk s X) (yb_qi X out.2 out.1)) (H_X12_product : ∀ (a1 : Int32) (s : yb_S) (out : (Int32 × yb_S)), r_X12_product a1 s = some out → Ct G yX12_product cX12_product 3 (Option.some .boolean) (yb_rm (8 + n)) [.ref (yb_ad G 176), .int a1] (yb_mk s X) (yb_qi X out.2 out.1)) (H_X12_sum : ∀ (a1 : Int32) (s : yb_S) (out : (Int32 × yb_S)), r_X12_sum a1 s = some out → Ct G yX12_sum cX12_sum 3 (Option.some .boolean) (yb_rm (8 + n)) [.ref (yb_ad G 176), .int a1] (yb_mk s X) (yb_qi X out.2 out.1)) : ∀ (k0 : Nat) (s : yb_S), l_X12_sum_10 r_X12_factor r_X12_product r_X12_sum x1 k0 s = some out → Rn G RX12 cX12_sum 3 (Option.some .boolean) false (yb_rm (9 + n)) (yb_qi X out.2 out.1) 0 0 10 [some (.ref (yb_ad G 176)), some (.int x1), none] [] (yb_mk s X) := by
  intro k0
  induction k0 with
  | zero => intro s h; cases h
  | succ k0 ih =>
    intro s h
    have h : f_X12_sum_10 r_X12_factor r_X12_product r_X12_sum (fun s => l_X12_sum_10 r_X12_factor r_X12_product r_X12_sum x1 k0 s) x1 s = some out := h
    have hrc10 := ih
    unfold f_X12_sum_10 at h
    refine n_aload_n (i := 0) dX12_sum_10 rfl rfl ?_
    refine n_bipush (43 : Int32) dX12_sum_11 bp_43 ?_
    obtain ⟨q4, hq4, h⟩ := yb_bind h
    refine p_callVi (As := [.int (43 : Int32)]) (t_X12_isSign hq4) cv_X12_394 (sh_176 _ _) rfl rfl (Nat.le_of_ble_eq_true rfl) dX12_sum_13 (yb_rok (by omega) (by decide)) ⟨rfl, rfl⟩ ⟨Nat.le_refl _, Nat.le_refl _⟩ (fun k5 => ?_)
    refine n_if_ne 28 dX12_sum_16 (by decide) (fun c6 => ?_) (fun c6 => ?_)
    · have h := yb_ifn c6 h
      exact p_jump (tj_X12_sum_28 H_X12_factor H_X12_product H_X12_sum hrc10 h) (And.intro rfl (And.intro rfl trivial))
    · have h := yb_ifp c6 h
      refine n_aload_n (i := 0) dX12_sum_19 rfl rfl ?_
      refine n_bipush (45 : Int32) dX12_sum_20 bp_45 ?_
      obtain ⟨q15, hq15, h⟩ := yb_bind h
      refine p_callVi (As := [.int (45 : Int32)]) (t_X12_isSign hq15) cv_X12_394 (sh_176 _ _) rfl rfl (Nat.le_of_ble_eq_true rfl) dX12_sum_22 (yb_rok (by omega) (by decide)) ⟨rfl, rfl⟩ ⟨Nat.le_refl _, Nat.le_refl _⟩ (fun k16 => ?_)
      refine n_if_eq 62 dX12_sum_25 (by decide) (fun c17 => ?_) (fun c17 => ?_)
      · have h := yb_ifp c17 h
        refine n_iconst (1 : Int32) dX12_sum_62 ic_1 ?_
        cases h
        exact n_iret dX12_sum_63 rfl (by decide) (Nat.le_refl _) (Nat.le_refl _) ⟨rfl, rfl⟩
      · have h := yb_ifn c17 h
        exact p_jump (tj_X12_sum_28 H_X12_factor H_X12_product H_X12_sum hrc10 h) (And.intro rfl (And.intro rfl trivial))
set_option maxHeartbeats 4000000 in
set_option maxRecDepth 20000 in
theorem tl_X12_sum_10 {G : yb_G} {X : List (FieldType × Nat)} {r_X12_factor : (Int32 → yb_S → Option (Int32 × yb_S))} {r_X12_product : (Int32 → yb_S → Option (Int32 × yb_S))} {r_X12_sum : (Int32 → yb_S → Option (Int32 × yb_S))} {n : Nat} {x1 : Int32} {out : (Int32 × yb_S)} (H_X12_factor : ∀ (a1 : Int32) (s : yb_S) (out : (Int32 × yb_S)), r_X12_factor a1 s = some out → Ct G yX12_factor cX12_factor 3 (Option.some .boolean) (yb_rm (8 + n)) [.ref (yb_ad G 176), .int a1] (yb_mk s X) (yb_qi X out.2 out.1)) (H_X12_product : ∀ (a1 : Int32) (s : yb_S) (out : (Int32 × yb_S)), r_X12_product a1 s = some out → Ct G yX12_product cX12_product 3 (Option.some .boolean) (yb_rm (8 + n)) [.ref (yb_ad G 176), .int a1] (yb_mk s X) (yb_qi X out.2 out.1)) (H_X12_sum : ∀ (a1 : Int32) (s : yb_S) (out : (Int32 × yb_S)), r_X12_sum a1 s = some out → Ct G yX12_sum cX12_sum 3 (Option.some .boolean) (yb_rm (8 + n)) [.ref (yb_ad G 176), .int a1] (yb_mk s X) (yb_qi X out.2 out.1)) {s : yb_S} (h : l_X12_sum_10 r_X12_factor r_X12_product r_X12_sum x1 yb_N s = some out) : Rn G RX12 cX12_sum 3 (Option.some .boolean) false (yb_rm (9 + n)) (yb_qi X out.2 out.1) 0 0 10 [some (.ref (yb_ad G 176)), some (.int x1), none] [] (yb_mk s X) := t_l_X12_sum_10 H_X12_factor H_X12_product H_X12_sum _ _ h
set_option maxHeartbeats 4000000 in
set_option maxRecDepth 20000 in
theorem t_X12_sum {G : yb_G} {X : List (FieldType × Nat)} {r_X12_factor : (Int32 → yb_S → Option (Int32 × yb_S))} {r_X12_product : (Int32 → yb_S → Option (Int32 × yb_S))} {r_X12_sum : (Int32 → yb_S → Option (Int32 × yb_S))} {n : Nat} {a1 : Int32} {s : yb_S} {out : (Int32 × yb_S)} (H_X12_factor : ∀ (a1 : Int32) (s : yb_S) (out : (Int32 × yb_S)), r_X12_factor a1 s = some out → Ct G yX12_factor cX12_factor 3 (Option.some .boolean) (yb_rm (8 + n)) [.ref (yb_ad G 176), .int a1] (yb_mk s X) (yb_qi X out.2 out.1)) (H_X12_product : ∀ (a1 : Int32) (s : yb_S) (out : (Int32 × yb_S)), r_X12_product a1 s = some out → Ct G yX12_product cX12_product 3 (Option.some .boolean) (yb_rm (8 + n)) [.ref (yb_ad G 176), .int a1] (yb_mk s X) (yb_qi X out.2 out.1)) (H_X12_sum : ∀ (a1 : Int32) (s : yb_S) (out : (Int32 × yb_S)), r_X12_sum a1 s = some out → Ct G yX12_sum cX12_sum 3 (Option.some .boolean) (yb_rm (8 + n)) [.ref (yb_ad G 176), .int a1] (yb_mk s X) (yb_qi X out.2 out.1)) (h : f_X12_sum r_X12_factor r_X12_product r_X12_sum a1 s = some out) : Ct G yX12_sum cX12_sum 3 (Option.some .boolean) (yb_rm (9 + n)) [.ref (yb_ad G 176), .int a1] (yb_mk s X) (yb_qi X out.2 out.1) := by
  refine Ct.of (own := RX12) (ini := false) (vs := [some (.ref (yb_ad G 176)), some (.int a1), none]) ⟨rfl, by decide +kernel⟩ (fun h => by cases h) (Nat.le_of_ble_eq_true rfl) rfl ?_
  unfold f_X12_sum at h
  refine n_aload_n (i := 0) dX12_sum_0 rfl rfl ?_
  refine n_iload_n (i := 1) dX12_sum_1 rfl rfl ?_
  obtain ⟨q1, hq1, h⟩ := yb_bind h
  refine p_callVi (As := [.int a1]) (H_X12_product a1 _ _ hq1) cv_X12_416 (sh_176 _ _) rfl rfl (Nat.le_of_ble_eq_true rfl) dX12_sum_2 (yb_rok (by omega) (by decide)) ⟨rfl, rfl⟩ ⟨Nat.le_refl _, Nat.le_refl _⟩ (fun k2 => ?_)
  refine n_if_ne 10 dX12_sum_5 (by decide) (fun c3 => ?_) (fun c3 => ?_)
  · have h := yb_ifn c3 h
    exact p_jump (tl_X12_sum_10 H_X12_factor H_X12_product H_X12_sum h) (And.intro rfl (And.intro rfl trivial))
  · have h := yb_ifp c3 h
    refine n_iconst (0 : Int32) dX12_sum_8 ic_0 ?_
    cases h
    exact n_iret dX12_sum_9 rfl (by decide) (Nat.le_refl _) (Nat.le_refl _) ⟨rfl, rfl⟩
set_option maxHeartbeats 4000000 in
set_option maxRecDepth 20000 in
theorem tg_X12_factor (G : yb_G) (X : List (FieldType × Nat)) : ∀ n : Nat, (∀ (a1 : Int32) (s : yb_S) (out : (Int32 × yb_S)), (gg_X12_factor n).1 a1 s = some out → Ct G yX12_factor cX12_factor 3 (Option.some .boolean) (yb_rm (8 + n)) [.ref (yb_ad G 176), .int a1] (yb_mk s X) (yb_qi X out.2 out.1)) ∧ (∀ (a1 : Int32) (s : yb_S) (out : (Int32 × yb_S)), (gg_X12_factor n).2.1 a1 s = some out → Ct G yX12_product cX12_product 3 (Option.some .boolean) (yb_rm (8 + n)) [.ref (yb_ad G 176), .int a1] (yb_mk s X) (yb_qi X out.2 out.1)) ∧ (∀ (a1 : Int32) (s : yb_S) (out : (Int32 × yb_S)), (gg_X12_factor n).2.2 a1 s = some out → Ct G yX12_sum cX12_sum 3 (Option.some .boolean) (yb_rm (8 + n)) [.ref (yb_ad G 176), .int a1] (yb_mk s X) (yb_qi X out.2 out.1)) := by
  intro n
  induction n with
  | zero => exact ⟨(fun _ _ _ h => by cases h), (fun _ _ _ h => by cases h), (fun _ _ _ h => by cases h)⟩
  | succ n ih =>
    obtain ⟨h0, h1, h2⟩ := ih
    rw [show 8 + (n + 1) = 9 + n from by omega]
    exact ⟨(fun a1 s out h => t_X12_factor h0 h1 h2 h), (fun a1 s out h => t_X12_product h0 h1 h2 h), (fun a1 s out h => t_X12_sum h0 h1 h2 h)⟩
set_option maxHeartbeats 4000000 in
set_option maxRecDepth 20000 in
theorem tt_X12_factor {G : yb_G} {X : List (FieldType × Nat)} {a1 : Int32} {s : yb_S} {out : (Int32 × yb_S)} (h : g_X12_factor a1 s = some out) : Ct G yX12_factor cX12_factor 3 (Option.some .boolean) (yb_rm 128) [.ref (yb_ad G 176), .int a1] (yb_mk s X) (yb_qi X out.2 out.1) := (tg_X12_factor G X 120).1 a1 s out h
set_option maxHeartbeats 4000000 in
set_option maxRecDepth 20000 in
theorem tt_X12_product {G : yb_G} {X : List (FieldType × Nat)} {a1 : Int32} {s : yb_S} {out : (Int32 × yb_S)} (h : g_X12_product a1 s = some out) : Ct G yX12_product cX12_product 3 (Option.some .boolean) (yb_rm 128) [.ref (yb_ad G 176), .int a1] (yb_mk s X) (yb_qi X out.2 out.1) := (tg_X12_factor G X 120).2.1 a1 s out h
set_option maxHeartbeats 4000000 in
set_option maxRecDepth 20000 in
theorem tt_X12_sum {G : yb_G} {X : List (FieldType × Nat)} {a1 : Int32} {s : yb_S} {out : (Int32 × yb_S)} (h : g_X12_sum a1 s = some out) : Ct G yX12_sum cX12_sum 3 (Option.some .boolean) (yb_rm 128) [.ref (yb_ad G 176), .int a1] (yb_mk s X) (yb_qi X out.2 out.1) := (tg_X12_factor G X 120).2.2 a1 s out h
set_option maxHeartbeats 4000000 in
set_option maxRecDepth 20000 in
theorem t_l_X12_each_10 {G : yb_G} {X : List (FieldType × Nat)} {r_X12_each : (Int32 → yb_S → Option (Int32 × yb_S))} {r_X12_either : (Int32 → yb_S → Option (Int32 × yb_S))} {r_X12_test : (Int32 → yb_S → Option (Int32 × yb_S))} {n : Nat} {x1 : Int32} {out : (Int32 × yb_S)} (H_X12_each : ∀ (a1 : Int32) (s : yb_S) (out : (Int32 × yb_S)), r_X12_each a1 s = some out → Ct G yX12_each cX12_each 2 (Option.some .boolean) (yb_rm (129 + n)) [.ref (yb_ad G 176), .int a1] (yb_mk s X) (yb_qi X out.2 out.1)) (H_X12_either : ∀ (a1 : Int32) (s : yb_S) (out : (Int32 × yb_S)), r_X12_either a1 s = some out → Ct G yX12_either cX12_either 2 (Option.some .boolean) (yb_rm (129 + n)) [.ref (yb_ad G 176), .int a1] (yb_mk s X) (yb_qi X out.2 out.1)) (H_X12_test : ∀ (a1 : Int32) (s : yb_S) (out : (Int32 × yb_S)), r_X12_test a1 s = some out → Ct G yX12_test cX12_test 3 (Option.some .boolean) (yb_rm (129 + n)) [.ref (yb_ad G 176), .int a1] (yb_mk s X) (yb_qi X out.2 out.1)) : ∀ (k0 : Nat) (s : yb_S), l_X12_each_10 r_X12_each r_X12_either r_X12_test x1 k0 s = some out → Rn G RX12 cX12_each 2 (Option.some .boolean) false (yb_rm (130 + n)) (yb_qi X out.2 out.1) 0 0 10 [some (.ref (yb_ad G 176)), some (.int x1)] [] (yb_mk s X) := by
  intro k0
  induction k0 with
  | zero => intro s h; cases h
  | succ k0 ih =>
    intro s h
    have h : f_X12_each_10 r_X12_each r_X12_either r_X12_test (fun s => l_X12_each_10 r_X12_each r_X12_either r_X12_test x1 k0 s) x1 s = some out := h
    have hrc10 := ih
    unfold f_X12_each_10 at h
    refine n_aload_n (i := 0) dX12_each_10 rfl rfl ?_
    refine n_ldcSw (i := 26) rfl dX12_each_11 ?_
    obtain ⟨q4, hq4, h⟩ := yb_bind h
    refine p_callVi (As := [.ref (yb_ad G 100026)]) (t_X12_isWord_str hq4) cv_X12_409 (sh_176 _ _) rfl rfl (Nat.le_of_ble_eq_true rfl) dX12_each_14 (yb_rok (by omega) (by decide)) ⟨rfl, rfl⟩ ⟨Nat.le_refl _, Nat.le_refl _⟩ (fun k5 => ?_)
    refine n_if_eq 45 dX12_each_17 (by decide) (fun c6 => ?_) (fun c6 => ?_)
    · have h := yb_ifp c6 h
      refine n_iconst (1 : Int32) dX12_each_45 ic_1 ?_
      cases h
      exact n_iret dX12_each_46 rfl (by decide) (Nat.le_refl _) (Nat.le_refl _) ⟨rfl, rfl⟩
    · have h := yb_ifn c6 h
      refine n_aload_n (i := 0) dX12_each_20 rfl rfl ?_
      obtain ⟨q7, hq7, h⟩ := yb_bind h
      refine p_callVv (As := []) (t_X12_goesOn hq7) cv_X12_380 (sh_176 _ _) rfl rfl (Nat.le_of_ble_eq_true rfl) dX12_each_21 (yb_rok (by omega) (by decide)) ⟨rfl, rfl⟩ ⟨Nat.le_refl _, Nat.le_refl _⟩ (fun k8 => ?_)
      refine n_aload_n (i := 0) dX12_each_24 rfl rfl ?_
      refine n_iload_n (i := 1) dX12_each_25 rfl rfl ?_
      obtain ⟨q9, hq9, h⟩ := yb_bind h
      refine p_callVi (As := [.int x1]) (H_X12_test x1 _ _ hq9) cv_X12_421 (sh_176 _ _) rfl rfl (Nat.le_of_ble_eq_true rfl) dX12_each_26 (yb_rok (by omega) (by decide)) ⟨rfl, rfl⟩ ⟨Nat.le_refl _, Nat.le_refl _⟩ (fun k10 => ?_)
      refine n_if_ne 34 dX12_each_29 (by decide) (fun c11 => ?_) (fun c11 => ?_)
      · have h := yb_ifn c11 h
        refine n_aload_n (i := 0) dX12_each_34 rfl rfl ?_
        refine n_bipush (38 : Int32) dX12_each_35 bp_38 ?_
        refine n_iconst (0 : Int32) dX12_each_37 ic_0 ?_
        obtain ⟨q12, hq12, h⟩ := yb_bind h
        refine p_callVi (As := [.int (38 : Int32), .int (0 : Int32)]) (t_X12_puts hq12) cv_X12_406 (sh_176 _ _) rfl rfl (Nat.le_of_ble_eq_true rfl) dX12_each_38 (yb_rok (by omega) (by decide)) ⟨rfl, rfl⟩ ⟨Nat.le_refl _, Nat.le_refl _⟩ (fun k13 => ?_)
        refine n_pop dX12_each_41 rfl ?_
        refine n_goto 10 dX12_each_42 (by decide) ?_
        exact p_jump (hrc10  q12.2 h) (And.intro rfl (And.intro rfl trivial))
      · have h := yb_ifp c11 h
        refine n_iconst (0 : Int32) dX12_each_32 ic_0 ?_
        cases h
        exact n_iret dX12_each_33 rfl (by decide) (Nat.le_refl _) (Nat.le_refl _) ⟨rfl, rfl⟩
set_option maxHeartbeats 4000000 in
set_option maxRecDepth 20000 in
theorem tl_X12_each_10 {G : yb_G} {X : List (FieldType × Nat)} {r_X12_each : (Int32 → yb_S → Option (Int32 × yb_S))} {r_X12_either : (Int32 → yb_S → Option (Int32 × yb_S))} {r_X12_test : (Int32 → yb_S → Option (Int32 × yb_S))} {n : Nat} {x1 : Int32} {out : (Int32 × yb_S)} (H_X12_each : ∀ (a1 : Int32) (s : yb_S) (out : (Int32 × yb_S)), r_X12_each a1 s = some out → Ct G yX12_each cX12_each 2 (Option.some .boolean) (yb_rm (129 + n)) [.ref (yb_ad G 176), .int a1] (yb_mk s X) (yb_qi X out.2 out.1)) (H_X12_either : ∀ (a1 : Int32) (s : yb_S) (out : (Int32 × yb_S)), r_X12_either a1 s = some out → Ct G yX12_either cX12_either 2 (Option.some .boolean) (yb_rm (129 + n)) [.ref (yb_ad G 176), .int a1] (yb_mk s X) (yb_qi X out.2 out.1)) (H_X12_test : ∀ (a1 : Int32) (s : yb_S) (out : (Int32 × yb_S)), r_X12_test a1 s = some out → Ct G yX12_test cX12_test 3 (Option.some .boolean) (yb_rm (129 + n)) [.ref (yb_ad G 176), .int a1] (yb_mk s X) (yb_qi X out.2 out.1)) {s : yb_S} (h : l_X12_each_10 r_X12_each r_X12_either r_X12_test x1 yb_N s = some out) : Rn G RX12 cX12_each 2 (Option.some .boolean) false (yb_rm (130 + n)) (yb_qi X out.2 out.1) 0 0 10 [some (.ref (yb_ad G 176)), some (.int x1)] [] (yb_mk s X) := t_l_X12_each_10 H_X12_each H_X12_either H_X12_test _ _ h
set_option maxHeartbeats 4000000 in
set_option maxRecDepth 20000 in
theorem t_X12_each {G : yb_G} {X : List (FieldType × Nat)} {r_X12_each : (Int32 → yb_S → Option (Int32 × yb_S))} {r_X12_either : (Int32 → yb_S → Option (Int32 × yb_S))} {r_X12_test : (Int32 → yb_S → Option (Int32 × yb_S))} {n : Nat} {a1 : Int32} {s : yb_S} {out : (Int32 × yb_S)} (H_X12_each : ∀ (a1 : Int32) (s : yb_S) (out : (Int32 × yb_S)), r_X12_each a1 s = some out → Ct G yX12_each cX12_each 2 (Option.some .boolean) (yb_rm (129 + n)) [.ref (yb_ad G 176), .int a1] (yb_mk s X) (yb_qi X out.2 out.1)) (H_X12_either : ∀ (a1 : Int32) (s : yb_S) (out : (Int32 × yb_S)), r_X12_either a1 s = some out → Ct G yX12_either cX12_either 2 (Option.some .boolean) (yb_rm (129 + n)) [.ref (yb_ad G 176), .int a1] (yb_mk s X) (yb_qi X out.2 out.1)) (H_X12_test : ∀ (a1 : Int32) (s : yb_S) (out : (Int32 × yb_S)), r_X12_test a1 s = some out → Ct G yX12_test cX12_test 3 (Option.some .boolean) (yb_rm (129 + n)) [.ref (yb_ad G 176), .int a1] (yb_mk s X) (yb_qi X out.2 out.1)) (h : f_X12_each r_X12_each r_X12_either r_X12_test a1 s = some out) : Ct G yX12_each cX12_each 2 (Option.some .boolean) (yb_rm (130 + n)) [.ref (yb_ad G 176), .int a1] (yb_mk s X) (yb_qi X out.2 out.1) := by
  refine Ct.of (own := RX12) (ini := false) (vs := [some (.ref (yb_ad G 176)), some (.int a1)]) ⟨rfl, by decide +kernel⟩ (fun h => by cases h) (Nat.le_of_ble_eq_true rfl) rfl ?_
  unfold f_X12_each at h
  refine n_aload_n (i := 0) dX12_each_0 rfl rfl ?_
  refine n_iload_n (i := 1) dX12_each_1 rfl rfl ?_
  obtain ⟨q1, hq1, h⟩ := yb_bind h
  refine p_callVi (As := [.int a1]) (H_X12_test a1 _ _ hq1) cv_X12_421 (sh_176 _ _) rfl rfl (Nat.le_of_ble_eq_true rfl) dX12_each_2 (yb_rok (by omega) (by decide)) ⟨rfl, rfl⟩ ⟨Nat.le_refl _, Nat.le_refl _⟩ (fun k2 => ?_)
  refine n_if_ne 10 dX12_each_5 (by decide) (fun c3 => ?_) (fun c3 => ?_)
  · have h := yb_ifn c3 h
    exact p_jump (tl_X12_each_10 H_X12_each H_X12_either H_X12_test h) (And.intro rfl (And.intro rfl trivial))
  · have h := yb_ifp c3 h
    refine n_iconst (0 : Int32) dX12_each_8 ic_0 ?_
    cases h
    exact n_iret dX12_each_9 rfl (by decide) (Nat.le_refl _) (Nat.le_refl _) ⟨rfl, rfl⟩
set_option maxHeartbeats 4000000 in
set_option maxRecDepth 20000 in
theorem t_l_X12_either_10 {G : yb_G} {X : List (FieldType × Nat)} {r_X12_each : (Int32 → yb_S → Option (Int32 × yb_S))} {r_X12_either : (Int32 → yb_S → Option (Int32 × yb_S))} {r_X12_test : (Int32 → yb_S → Option (Int32 × yb_S))} {n : Nat} {x1 : Int32} {out : (Int32 × yb_S)} (H_X12_each : ∀ (a1 : Int32) (s : yb_S) (out : (Int32 × yb_S)), r_X12_each a1 s = some out → Ct G yX12_each cX12_each 2 (Option.some .boolean) (yb_rm (129 + n)) [.ref (yb_ad G 176), .int a1] (yb_mk s X) (yb_qi X out.2 out.1)) (H_X12_either : ∀ (a1 : Int32) (s : yb_S) (out : (Int32 × yb_S)), r_X12_either a1 s = some out → Ct G yX12_either cX12_either 2 (Option.some .boolean) (yb_rm (129 + n)) [.ref (yb_ad G 176), .int a1] (yb_mk s X) (yb_qi X out.2 out.1)) (H_X12_test : ∀ (a1 : Int32) (s : yb_S) (out : (Int32 × yb_S)), r_X12_test a1 s = some out → Ct G yX12_test cX12_test 3 (Option.some .boolean) (yb_rm (129 + n)) [.ref (yb_ad G 176), .int a1] (yb_mk s X) (yb_qi X out.2 out.1)) : ∀ (k0 : Nat) (s : yb_S), l_X12_either_10 r_X12_each r_X12_either r_X12_test x1 k0 s = some out → Rn G RX12 cX12_either 2 (Option.some .boolean) false (yb_rm (130 + n)) (yb_qi X out.2 out.1) 0 0 10 [some (.ref (yb_ad G 176)), some (.int x1)] [] (yb_mk s X) := by
  intro k0
  induction k0 with
  | zero => intro s h; cases h
  | succ k0 ih =>
    intro s h
    have h : f_X12_either_10 r_X12_each r_X12_either r_X12_test (fun s => l_X12_either_10 r_X12_each r_X12_either r_X12_test x1 k0 s) x1 s = some out := h
    have hrc10 := ih
    unfold f_X12_either_10 at h
    refine n_aload_n (i := 0) dX12_either_10 rfl rfl ?_
    refine n_ldcSw (i := 27) rfl dX12_either_11 ?_
    obtain ⟨q4, hq4, h⟩ := yb_bind h
    refine p_callVi (As := [.ref (yb_ad G 100027)]) (t_X12_isWord_str hq4) cv_X12_409 (sh_176 _ _) rfl rfl (Nat.le_of_ble_eq_true rfl) dX12_either_14 (yb_rok (by omega) (by decide)) ⟨rfl, rfl⟩ ⟨Nat.le_refl _, Nat.le_refl _⟩ (fun k5 => ?_)
    refine n_if_eq 45 dX12_either_17 (by decide) (fun c6 => ?_) (fun c6 => ?_)
    · have h := yb_ifp c6 h
      refine n_iconst (1 : Int32) dX12_either_45 ic_1 ?_
      cases h
      exact n_iret dX12_either_46 rfl (by decide) (Nat.le_refl _) (Nat.le_refl _) ⟨rfl, rfl⟩
    · have h := yb_ifn c6 h
      refine n_aload_n (i := 0) dX12_either_20 rfl rfl ?_
      obtain ⟨q7, hq7, h⟩ := yb_bind h
      refine p_callVv (As := []) (t_X12_goesOn hq7) cv_X12_380 (sh_176 _ _) rfl rfl (Nat.le_of_ble_eq_true rfl) dX12_either_21 (yb_rok (by omega) (by decide)) ⟨rfl, rfl⟩ ⟨Nat.le_refl _, Nat.le_refl _⟩ (fun k8 => ?_)
      refine n_aload_n (i := 0) dX12_either_24 rfl rfl ?_
      refine n_iload_n (i := 1) dX12_either_25 rfl rfl ?_
      obtain ⟨q9, hq9, h⟩ := yb_bind h
      refine p_callVi (As := [.int x1]) (H_X12_each x1 _ _ hq9) cv_X12_429 (sh_176 _ _) rfl rfl (Nat.le_of_ble_eq_true rfl) dX12_either_26 (yb_rok (by omega) (by decide)) ⟨rfl, rfl⟩ ⟨Nat.le_refl _, Nat.le_refl _⟩ (fun k10 => ?_)
      refine n_if_ne 34 dX12_either_29 (by decide) (fun c11 => ?_) (fun c11 => ?_)
      · have h := yb_ifn c11 h
        refine n_aload_n (i := 0) dX12_either_34 rfl rfl ?_
        refine n_bipush (124 : Int32) dX12_either_35 bp_124 ?_
        refine n_iconst (0 : Int32) dX12_either_37 ic_0 ?_
        obtain ⟨q12, hq12, h⟩ := yb_bind h
        refine p_callVi (As := [.int (124 : Int32), .int (0 : Int32)]) (t_X12_puts hq12) cv_X12_406 (sh_176 _ _) rfl rfl (Nat.le_of_ble_eq_true rfl) dX12_either_38 (yb_rok (by omega) (by decide)) ⟨rfl, rfl⟩ ⟨Nat.le_refl _, Nat.le_refl _⟩ (fun k13 => ?_)
        refine n_pop dX12_either_41 rfl ?_
        refine n_goto 10 dX12_either_42 (by decide) ?_
        exact p_jump (hrc10  q12.2 h) (And.intro rfl (And.intro rfl trivial))
      · have h := yb_ifp c11 h
        refine n_iconst (0 : Int32) dX12_either_32 ic_0 ?_
        cases h
        exact n_iret dX12_either_33 rfl (by decide) (Nat.le_refl _) (Nat.le_refl _) ⟨rfl, rfl⟩
set_option maxHeartbeats 4000000 in
set_option maxRecDepth 20000 in
theorem tl_X12_either_10 {G : yb_G} {X : List (FieldType × Nat)} {r_X12_each : (Int32 → yb_S → Option (Int32 × yb_S))} {r_X12_either : (Int32 → yb_S → Option (Int32 × yb_S))} {r_X12_test : (Int32 → yb_S → Option (Int32 × yb_S))} {n : Nat} {x1 : Int32} {out : (Int32 × yb_S)} (H_X12_each : ∀ (a1 : Int32) (s : yb_S) (out : (Int32 × yb_S)), r_X12_each a1 s = some out → Ct G yX12_each cX12_each 2 (Option.some .boolean) (yb_rm (129 + n)) [.ref (yb_ad G 176), .int a1] (yb_mk s X) (yb_qi X out.2 out.1)) (H_X12_either : ∀ (a1 : Int32) (s : yb_S) (out : (Int32 × yb_S)), r_X12_either a1 s = some out → Ct G yX12_either cX12_either 2 (Option.some .boolean) (yb_rm (129 + n)) [.ref (yb_ad G 176), .int a1] (yb_mk s X) (yb_qi X out.2 out.1)) (H_X12_test : ∀ (a1 : Int32) (s : yb_S) (out : (Int32 × yb_S)), r_X12_test a1 s = some out → Ct G yX12_test cX12_test 3 (Option.some .boolean) (yb_rm (129 + n)) [.ref (yb_ad G 176), .int a1] (yb_mk s X) (yb_qi X out.2 out.1)) {s : yb_S} (h : l_X12_either_10 r_X12_each r_X12_either r_X12_test x1 yb_N s = some out) : Rn G RX12 cX12_either 2 (Option.some .boolean) false (yb_rm (130 + n)) (yb_qi X out.2 out.1) 0 0 10 [some (.ref (yb_ad G 176)), some (.int x1)] [] (yb_mk s X) := t_l_X12_either_10 H_X12_each H_X12_either H_X12_test _ _ h
set_option maxHeartbeats 4000000 in
set_option maxRecDepth 20000 in
theorem t_X12_either {G : yb_G} {X : List (FieldType × Nat)} {r_X12_each : (Int32 → yb_S → Option (Int32 × yb_S))} {r_X12_either : (Int32 → yb_S → Option (Int32 × yb_S))} {r_X12_test : (Int32 → yb_S → Option (Int32 × yb_S))} {n : Nat} {a1 : Int32} {s : yb_S} {out : (Int32 × yb_S)} (H_X12_each : ∀ (a1 : Int32) (s : yb_S) (out : (Int32 × yb_S)), r_X12_each a1 s = some out → Ct G yX12_each cX12_each 2 (Option.some .boolean) (yb_rm (129 + n)) [.ref (yb_ad G 176), .int a1] (yb_mk s X) (yb_qi X out.2 out.1)) (H_X12_either : ∀ (a1 : Int32) (s : yb_S) (out : (Int32 × yb_S)), r_X12_either a1 s = some out → Ct G yX12_either cX12_either 2 (Option.some .boolean) (yb_rm (129 + n)) [.ref (yb_ad G 176), .int a1] (yb_mk s X) (yb_qi X out.2 out.1)) (H_X12_test : ∀ (a1 : Int32) (s : yb_S) (out : (Int32 × yb_S)), r_X12_test a1 s = some out → Ct G yX12_test cX12_test 3 (Option.some .boolean) (yb_rm (129 + n)) [.ref (yb_ad G 176), .int a1] (yb_mk s X) (yb_qi X out.2 out.1)) (h : f_X12_either r_X12_each r_X12_either r_X12_test a1 s = some out) : Ct G yX12_either cX12_either 2 (Option.some .boolean) (yb_rm (130 + n)) [.ref (yb_ad G 176), .int a1] (yb_mk s X) (yb_qi X out.2 out.1) := by
  refine Ct.of (own := RX12) (ini := false) (vs := [some (.ref (yb_ad G 176)), some (.int a1)]) ⟨rfl, by decide +kernel⟩ (fun h => by cases h) (Nat.le_of_ble_eq_true rfl) rfl ?_
  unfold f_X12_either at h
  refine n_aload_n (i := 0) dX12_either_0 rfl rfl ?_
  refine n_iload_n (i := 1) dX12_either_1 rfl rfl ?_
  obtain ⟨q1, hq1, h⟩ := yb_bind h
  refine p_callVi (As := [.int a1]) (H_X12_each a1 _ _ hq1) cv_X12_429 (sh_176 _ _) rfl rfl (Nat.le_of_ble_eq_true rfl) dX12_either_2 (yb_rok (by omega) (by decide)) ⟨rfl, rfl⟩ ⟨Nat.le_refl _, Nat.le_refl _⟩ (fun k2 => ?_)
  refine n_if_ne 10 dX12_either_5 (by decide) (fun c3 => ?_) (fun c3 => ?_)
  · have h := yb_ifn c3 h
    exact p_jump (tl_X12_either_10 H_X12_each H_X12_either H_X12_test h) (And.intro rfl (And.intro rfl trivial))
  · have h := yb_ifp c3 h
    refine n_iconst (0 : Int32) dX12_either_8 ic_0 ?_
    cases h
    exact n_iret dX12_either_9 rfl (by decide) (Nat.le_refl _) (Nat.le_refl _) ⟨rfl, rfl⟩
set_option maxHeartbeats 4000000 in
set_option maxRecDepth 20000 in
theorem tj_X12_test_152 {G : yb_G} {X : List (FieldType × Nat)} {r_X12_each : (Int32 → yb_S → Option (Int32 × yb_S))} {r_X12_either : (Int32 → yb_S → Option (Int32 × yb_S))} {r_X12_test : (Int32 → yb_S → Option (Int32 × yb_S))} {n : Nat} {x1 : Int32} {s : yb_S} {out : (Int32 × yb_S)} (H_X12_each : ∀ (a1 : Int32) (s : yb_S) (out : (Int32 × yb_S)), r_X12_each a1 s = some out → Ct G yX12_each cX12_each 2 (Option.some .boolean) (yb_rm (129 + n)) [.ref (yb_ad G 176), .int a1] (yb_mk s X) (yb_qi X out.2 out.1)) (H_X12_either : ∀ (a1 : Int32) (s : yb_S) (out : (Int32 × yb_S)), r_X12_either a1 s = some out → Ct G yX12_either cX12_either 2 (Option.some .boolean) (yb_rm (129 + n)) [.ref (yb_ad G 176), .int a1] (yb_mk s X) (yb_qi X out.2 out.1)) (H_X12_test : ∀ (a1 : Int32) (s : yb_S) (out : (Int32 × yb_S)), r_X12_test a1 s = some out → Ct G yX12_test cX12_test 3 (Option.some .boolean) (yb_rm (129 + n)) [.ref (yb_ad G 176), .int a1] (yb_mk s X) (yb_qi X out.2 out.1)) (h : j_X12_test_152 r_X12_each r_X12_either r_X12_test x1 s = some out) : Rn G RX12 cX12_test 3 (Option.some .boolean) false (yb_rm (130 + n)) (yb_qi X out.2 out.1) 0 0 152 [some (.ref (yb_ad G 176)), some (.int x1), none] [] (yb_mk s X) := by
  unfold j_X12_test_152 at h
  refine n_aload_n (i := 0) dX12_test_152 rfl rfl ?_
  refine p_getr fl_X12_119 (sh_176 _ _) rfl (rR_176_43 _ _) dX12_test_153 ?_
  refine n_aload_n (i := 0) dX12_test_156 rfl rfl ?_
  refine p_geti fl_X12_350 (sh_176 _ _) rfl dX12_test_157 ?_
  obtain ⟨v13, hv13, h⟩ := yb_bind h
  refine p_bald hv13 (sh_242 _ _) dX12_test_160 ?_
  refine n_istore_n (i := 2) (vs' := [some (.ref (yb_ad G 176)), some (.int x1), some (.int v13)]) dX12_test_161 rfl (Nat.le_of_ble_eq_true rfl) rfl rfl ?_
  refine n_aload_n (i := 0) dX12_test_162 rfl rfl ?_
  obtain ⟨q14, hq14, h⟩ := yb_bind h
  refine p_callVv (As := []) (t_X12_goesOn hq14) cv_X12_380 (sh_176 _ _) rfl rfl (Nat.le_of_ble_eq_true rfl) dX12_test_163 (yb_rok (by omega) (by decide)) ⟨rfl, rfl⟩ ⟨Nat.le_refl _, Nat.le_refl _⟩ (fun k15 => ?_)
  refine n_aload_n (i := 0) dX12_test_166 rfl rfl ?_
  refine n_iload_n (i := 1) dX12_test_167 rfl rfl ?_
  obtain ⟨q16, hq16, h⟩ := yb_bind h
  refine p_callVi (As := [.int x1]) (tt_X12_sum hq16) cv_X12_401 (sh_176 _ _) rfl rfl (Nat.le_of_ble_eq_true rfl) dX12_test_168 (yb_rok (by omega) (by decide)) ⟨rfl, rfl⟩ ⟨Nat.le_refl _, Nat.le_refl _⟩ (fun k17 => ?_)
  refine n_if_eq 187 dX12_test_171 (by decide) (fun c18 => ?_) (fun c18 => ?_)
  · have h := yb_ifp c18 h
    refine n_iconst (0 : Int32) dX12_test_187 ic_0 ?_
    cases h
    exact n_iret dX12_test_188 rfl (by decide) (Nat.le_refl _) (Nat.le_refl _) ⟨rfl, rfl⟩
  · have h := yb_ifn c18 h
    refine n_aload_n (i := 0) dX12_test_174 rfl rfl ?_
    refine n_iload_n (i := 2) dX12_test_175 rfl rfl ?_
    refine n_iconst (0 : Int32) dX12_test_176 ic_0 ?_
    obtain ⟨q19, hq19, h⟩ := yb_bind h
    refine p_callVi (As := [.int v13, .int (0 : Int32)]) (t_X12_puts hq19) cv_X12_406 (sh_176 _ _) rfl rfl (Nat.le_of_ble_eq_true rfl) dX12_test_177 (yb_rok (by omega) (by decide)) ⟨rfl, rfl⟩ ⟨Nat.le_refl _, Nat.le_refl _⟩ (fun k20 => ?_)
    refine n_if_eq 187 dX12_test_180 (by decide) (fun c21 => ?_) (fun c21 => ?_)
    · have h := yb_ifp c21 h
      refine n_iconst (0 : Int32) dX12_test_187 ic_0 ?_
      cases h
      exact n_iret dX12_test_188 rfl (by decide) (Nat.le_refl _) (Nat.le_refl _) ⟨rfl, rfl⟩
    · have h := yb_ifn c21 h
      refine n_iconst (1 : Int32) dX12_test_183 ic_1 ?_
      refine n_goto 188 dX12_test_184 (by decide) ?_
      cases h
      exact n_iret dX12_test_188 rfl (by decide) (Nat.le_refl _) (Nat.le_refl _) ⟨rfl, rfl⟩
set_option maxHeartbeats 4000000 in
set_option maxRecDepth 20000 in
theorem tj_X12_test_75 {G : yb_G} {X : List (FieldType × Nat)} {r_X12_each : (Int32 → yb_S → Option (Int32 × yb_S))} {r_X12_either : (Int32 → yb_S → Option (Int32 × yb_S))} {r_X12_test : (Int32 → yb_S → Option (Int32 × yb_S))} {n : Nat} {x1 : Int32} {y0 : Int32} {s : yb_S} {out : (Int32 × yb_S)} (H_X12_each : ∀ (a1 : Int32) (s : yb_S) (out : (Int32 × yb_S)), r_X12_each a1 s = some out → Ct G yX12_each cX12_each 2 (Option.some .boolean) (yb_rm (129 + n)) [.ref (yb_ad G 176), .int a1] (yb_mk s X) (yb_qi X out.2 out.1)) (H_X12_either : ∀ (a1 : Int32) (s : yb_S) (out : (Int32 × yb_S)), r_X12_either a1 s = some out → Ct G yX12_either cX12_either 2 (Option.some .boolean) (yb_rm (129 + n)) [.ref (yb_ad G 176), .int a1] (yb_mk s X) (yb_qi X out.2 out.1)) (H_X12_test : ∀ (a1 : Int32) (s : yb_S) (out : (Int32 × yb_S)), r_X12_test a1 s = some out → Ct G yX12_test cX12_test 3 (Option.some .boolean) (yb_rm (129 + n)) [.ref (yb_ad G 176), .int a1] (yb_mk s X) (yb_qi X out.2 out.1)) (h : j_X12_test_75 r_X12_each r_X12_either r_X12_test x1 y0 s = some out) : Rn G RX12 cX12_test 3 (Option.some .boolean) false (yb_rm (130 + n)) (yb_qi X out.2 out.1) 0 0 75 [some (.ref (yb_ad G 176)), some (.int x1), none] [.int y0, .ref (yb_ad G 176)] (yb_mk s X) := by
  unfold j_X12_test_75 at h
  obtain ⟨q31, hq31, h⟩ := yb_bind h
  refine p_callVi (As := [.int y0]) (t_X12_passes hq31) cv_X12_397 (sh_176 _ _) rfl rfl (Nat.le_of_ble_eq_true rfl) dX12_test_75 (yb_rok (by omega) (by decide)) ⟨rfl, rfl⟩ ⟨Nat.le_refl _, Nat.le_refl _⟩ (fun k32 => ?_)
  refine n_if_eq 108 dX12_test_78 (by decide) (fun c33 => ?_) (fun c33 => ?_)
  · have h := yb_ifp c33 h
    refine n_iconst (0 : Int32) dX12_test_108 ic_0 ?_
    cases h
    exact n_iret dX12_test_109 rfl (by decide) (Nat.le_refl _) (Nat.le_refl _) ⟨rfl, rfl⟩
  · have h := yb_ifn c33 h
    refine n_aload_n (i := 0) dX12_test_81 rfl rfl ?_
    refine n_iload_n (i := 1) dX12_test_82 rfl rfl ?_
    refine n_iconst (1 : Int32) dX12_test_83 ic_1 ?_
    refine n_iadd dX12_test_84 ?_
    obtain ⟨q34, hq34, h⟩ := yb_bind h
    refine p_callVi (As := [.int (x1 + (1 : Int32))]) (H_X12_either (x1 + (1 : Int32)) _ _ hq34) cv_X12_424 (sh_176 _ _) rfl rfl (Nat.le_of_ble_eq_true rfl) dX12_test_85 (yb_rok (by omega) (by decide)) ⟨rfl, rfl⟩ ⟨Nat.le_refl _, Nat.le_refl _⟩ (fun k35 => ?_)
    refine n_if_eq 108 dX12_test_88 (by decide) (fun c36 => ?_) (fun c36 => ?_)
    · have h := yb_ifp c36 h
      refine n_iconst (0 : Int32) dX12_test_108 ic_0 ?_
      cases h
      exact n_iret dX12_test_109 rfl (by decide) (Nat.le_refl _) (Nat.le_refl _) ⟨rfl, rfl⟩
    · have h := yb_ifn c36 h
      refine n_aload_n (i := 0) dX12_test_91 rfl rfl ?_
      refine n_aload_n (i := 0) dX12_test_92 rfl rfl ?_
      refine n_bipush (93 : Int32) dX12_test_93 bp_93 ?_
      obtain ⟨q37, hq37, h⟩ := yb_bind h
      refine p_callVi (As := [.int (93 : Int32)]) (t_X12_isSign hq37) cv_X12_394 (sh_176 _ _) rfl rfl (Nat.le_of_ble_eq_true rfl) dX12_test_95 (yb_rok (by omega) (by decide)) ⟨rfl, rfl⟩ ⟨Nat.le_refl _, Nat.le_refl _⟩ (fun k38 => ?_)
      obtain ⟨q39, hq39, h⟩ := yb_bind h
      refine p_callVi (As := [.int q37]) (t_X12_passes hq39) cv_X12_397 (sh_176 _ _) rfl rfl (Nat.le_of_ble_eq_true rfl) dX12_test_98 (yb_rok (by omega) (by decide)) ⟨rfl, rfl⟩ ⟨Nat.le_refl _, Nat.le_refl _⟩ (fun k40 => ?_)
      refine n_if_eq 108 dX12_test_101 (by decide) (fun c41 => ?_) (fun c41 => ?_)
      · have h := yb_ifp c41 h
        refine n_iconst (0 : Int32) dX12_test_108 ic_0 ?_
        cases h
        exact n_iret dX12_test_109 rfl (by decide) (Nat.le_refl _) (Nat.le_refl _) ⟨rfl, rfl⟩
      · have h := yb_ifn c41 h
        refine n_iconst (1 : Int32) dX12_test_104 ic_1 ?_
        refine n_goto 109 dX12_test_105 (by decide) ?_
        cases h
        exact n_iret dX12_test_109 rfl (by decide) (Nat.le_refl _) (Nat.le_refl _) ⟨rfl, rfl⟩
set_option maxHeartbeats 4000000 in
set_option maxRecDepth 20000 in
theorem tj_X12_test_22 {G : yb_G} {X : List (FieldType × Nat)} {r_X12_each : (Int32 → yb_S → Option (Int32 × yb_S))} {r_X12_either : (Int32 → yb_S → Option (Int32 × yb_S))} {r_X12_test : (Int32 → yb_S → Option (Int32 × yb_S))} {n : Nat} {x1 : Int32} {y0 : Int32} {s : yb_S} {out : (Int32 × yb_S)} (H_X12_each : ∀ (a1 : Int32) (s : yb_S) (out : (Int32 × yb_S)), r_X12_each a1 s = some out → Ct G yX12_each cX12_each 2 (Option.some .boolean) (yb_rm (129 + n)) [.ref (yb_ad G 176), .int a1] (yb_mk s X) (yb_qi X out.2 out.1)) (H_X12_either : ∀ (a1 : Int32) (s : yb_S) (out : (Int32 × yb_S)), r_X12_either a1 s = some out → Ct G yX12_either cX12_either 2 (Option.some .boolean) (yb_rm (129 + n)) [.ref (yb_ad G 176), .int a1] (yb_mk s X) (yb_qi X out.2 out.1)) (H_X12_test : ∀ (a1 : Int32) (s : yb_S) (out : (Int32 × yb_S)), r_X12_test a1 s = some out → Ct G yX12_test cX12_test 3 (Option.some .boolean) (yb_rm (129 + n)) [.ref (yb_ad G 176), .int a1] (yb_mk s X) (yb_qi X out.2 out.1)) (h : j_X12_test_22 r_X12_each r_X12_either r_X12_test x1 y0 s = some out) : Rn G RX12 cX12_test 3 (Option.some .boolean) false (yb_rm (130 + n)) (yb_qi X out.2 out.1) 0 0 22 [some (.ref (yb_ad G 176)), some (.int x1), none] [.int y0, .ref (yb_ad G 176)] (yb_mk s X) := by
  unfold j_X12_test_22 at h
  obtain ⟨q43, hq43, h⟩ := yb_bind h
  refine p_callVi (As := [.int y0]) (t_X12_passes hq43) cv_X12_397 (sh_176 _ _) rfl rfl (Nat.le_of_ble_eq_true rfl) dX12_test_22 (yb_rok (by omega) (by decide)) ⟨rfl, rfl⟩ ⟨Nat.le_refl _, Nat.le_refl _⟩ (fun k44 => ?_)
  refine n_if_eq 52 dX12_test_25 (by decide) (fun c45 => ?_) (fun c45 => ?_)
  · have h := yb_ifp c45 h
    refine n_iconst (0 : Int32) dX12_test_52 ic_0 ?_
    cases h
    exact n_iret dX12_test_53 rfl (by decide) (Nat.le_refl _) (Nat.le_refl _) ⟨rfl, rfl⟩
  · have h := yb_ifn c45 h
    refine n_aload_n (i := 0) dX12_test_28 rfl rfl ?_
    refine n_iload_n (i := 1) dX12_test_29 rfl rfl ?_
    refine n_iconst (1 : Int32) dX12_test_30 ic_1 ?_
    refine n_iadd dX12_test_31 ?_
    obtain ⟨q46, hq46, h⟩ := yb_bind h
    refine p_callVi (As := [.int (x1 + (1 : Int32))]) (H_X12_test (x1 + (1 : Int32)) _ _ hq46) cv_X12_421 (sh_176 _ _) rfl rfl (Nat.le_of_ble_eq_true rfl) dX12_test_32 (yb_rok (by omega) (by decide)) ⟨rfl, rfl⟩ ⟨Nat.le_refl _, Nat.le_refl _⟩ (fun k47 => ?_)
    refine n_if_eq 52 dX12_test_35 (by decide) (fun c48 => ?_) (fun c48 => ?_)
    · have h := yb_ifp c48 h
      refine n_iconst (0 : Int32) dX12_test_52 ic_0 ?_
      cases h
      exact n_iret dX12_test_53 rfl (by decide) (Nat.le_refl _) (Nat.le_refl _) ⟨rfl, rfl⟩
    · have h := yb_ifn c48 h
      refine n_aload_n (i := 0) dX12_test_38 rfl rfl ?_
      refine n_bipush (33 : Int32) dX12_test_39 bp_33 ?_
      refine n_iconst (0 : Int32) dX12_test_41 ic_0 ?_
      obtain ⟨q49, hq49, h⟩ := yb_bind h
      refine p_callVi (As := [.int (33 : Int32), .int (0 : Int32)]) (t_X12_puts hq49) cv_X12_406 (sh_176 _ _) rfl rfl (Nat.le_of_ble_eq_true rfl) dX12_test_42 (yb_rok (by omega) (by decide)) ⟨rfl, rfl⟩ ⟨Nat.le_refl _, Nat.le_refl _⟩ (fun k50 => ?_)
      refine n_if_eq 52 dX12_test_45 (by decide) (fun c51 => ?_) (fun c51 => ?_)
      · have h := yb_ifp c51 h
        refine n_iconst (0 : Int32) dX12_test_52 ic_0 ?_
        cases h
        exact n_iret dX12_test_53 rfl (by decide) (Nat.le_refl _) (Nat.le_refl _) ⟨rfl, rfl⟩
      · have h := yb_ifn c51 h
        refine n_iconst (1 : Int32) dX12_test_48 ic_1 ?_
        refine n_goto 53 dX12_test_49 (by decide) ?_
        cases h
        exact n_iret dX12_test_53 rfl (by decide) (Nat.le_refl _) (Nat.le_refl _) ⟨rfl, rfl⟩
set_option maxHeartbeats 4000000 in
set_option maxRecDepth 20000 in
theorem t_X12_test {G : yb_G} {X : List (FieldType × Nat)} {r_X12_each : (Int32 → yb_S → Option (Int32 × yb_S))} {r_X12_either : (Int32 → yb_S → Option (Int32 × yb_S))} {r_X12_test : (Int32 → yb_S → Option (Int32 × yb_S))} {n : Nat} {a1 : Int32} {s : yb_S} {out : (Int32 × yb_S)} (H_X12_each : ∀ (a1 : Int32) (s : yb_S) (out : (Int32 × yb_S)), r_X12_each a1 s = some out → Ct G yX12_each cX12_each 2 (Option.some .boolean) (yb_rm (129 + n)) [.ref (yb_ad G 176), .int a1] (yb_mk s X) (yb_qi X out.2 out.1)) (H_X12_either : ∀ (a1 : Int32) (s : yb_S) (out : (Int32 × yb_S)), r_X12_either a1 s = some out → Ct G yX12_either cX12_either 2 (Option.some .boolean) (yb_rm (129 + n)) [.ref (yb_ad G 176), .int a1] (yb_mk s X) (yb_qi X out.2 out.1)) (H_X12_test : ∀ (a1 : Int32) (s : yb_S) (out : (Int32 × yb_S)), r_X12_test a1 s = some out → Ct G yX12_test cX12_test 3 (Option.some .boolean) (yb_rm (129 + n)) [.ref (yb_ad G 176), .int a1] (yb_mk s X) (yb_qi X out.2 out.1)) (h : f_X12_test r_X12_each r_X12_either r_X12_test a1 s = some out) : Ct G yX12_test cX12_test 3 (Option.some .boolean) (yb_rm (130 + n)) [.ref (yb_ad G 176), .int a1] (yb_mk s X) (yb_qi X out.2 out.1) := by
  refine Ct.of (own := RX12) (ini := false) (vs := [some (.ref (yb_ad G 176)), some (.int a1), none]) ⟨rfl, by decide +kernel⟩ (fun h => by cases h) (Nat.le_of_ble_eq_true rfl) rfl ?_
  unfold f_X12_test at h
  refine n_aload_n (i := 0) dX12_test_0 rfl rfl ?_
  refine n_ldcSw (i := 25) rfl dX12_test_1 ?_
  obtain ⟨q1, hq1, h⟩ := yb_bind h
  refine p_callVi (As := [.ref (yb_ad G 100025)]) (t_X12_isWord_str hq1) cv_X12_409 (sh_176 _ _) rfl rfl (Nat.le_of_ble_eq_true rfl) dX12_test_4 (yb_rok (by omega) (by decide)) ⟨rfl, rfl⟩ ⟨Nat.le_refl _, Nat.le_refl _⟩ (fun k2 => ?_)
  refine n_if_eq 54 dX12_test_7 (by decide) (fun c3 => ?_) (fun c3 => ?_)
  · have h := yb_ifp c3 h
    refine n_aload_n (i := 0) dX12_test_54 rfl rfl ?_
    refine n_bipush (91 : Int32) dX12_test_55 bp_91 ?_
    obtain ⟨q4, hq4, h⟩ := yb_bind h
    refine p_callVi (As := [.int (91 : Int32)]) (t_X12_isSign hq4) cv_X12_394 (sh_176 _ _) rfl rfl (Nat.le_of_ble_eq_true rfl) dX12_test_57 (yb_rok (by omega) (by decide)) ⟨rfl, rfl⟩ ⟨Nat.le_refl _, Nat.le_refl _⟩ (fun k5 => ?_)
    refine n_if_eq 110 dX12_test_60 (by decide) (fun c6 => ?_) (fun c6 => ?_)
    · have h := yb_ifp c6 h
      refine n_aload_n (i := 0) dX12_test_110 rfl rfl ?_
      refine n_iload_n (i := 1) dX12_test_111 rfl rfl ?_
      obtain ⟨q7, hq7, h⟩ := yb_bind h
      refine p_callVi (As := [.int a1]) (tt_X12_sum hq7) cv_X12_401 (sh_176 _ _) rfl rfl (Nat.le_of_ble_eq_true rfl) dX12_test_112 (yb_rok (by omega) (by decide)) ⟨rfl, rfl⟩ ⟨Nat.le_refl _, Nat.le_refl _⟩ (fun k8 => ?_)
      refine n_if_ne 120 dX12_test_115 (by decide) (fun c9 => ?_) (fun c9 => ?_)
      · have h := yb_ifn c9 h
        refine n_aload_n (i := 0) dX12_test_120 rfl rfl ?_
        refine n_bipush (60 : Int32) dX12_test_121 bp_60 ?_
        obtain ⟨q10, hq10, h⟩ := yb_bind h
        refine p_callVi (As := [.int (60 : Int32)]) (t_X12_isSign hq10) cv_X12_394 (sh_176 _ _) rfl rfl (Nat.le_of_ble_eq_true rfl) dX12_test_123 (yb_rok (by omega) (by decide)) ⟨rfl, rfl⟩ ⟨Nat.le_refl _, Nat.le_refl _⟩ (fun k11 => ?_)
        refine n_if_ne 152 dX12_test_126 (by decide) (fun c12 => ?_) (fun c12 => ?_)
        · have h := yb_ifn c12 h
          exact p_jump (tj_X12_test_152 H_X12_each H_X12_either H_X12_test h) (And.intro rfl (And.intro rfl trivial))
        · have h := yb_ifp c12 h
          refine n_aload_n (i := 0) dX12_test_129 rfl rfl ?_
          refine n_bipush (62 : Int32) dX12_test_130 bp_62 ?_
          obtain ⟨q22, hq22, h⟩ := yb_bind h
          refine p_callVi (As := [.int (62 : Int32)]) (t_X12_isSign hq22) cv_X12_394 (sh_176 _ _) rfl rfl (Nat.le_of_ble_eq_true rfl) dX12_test_132 (yb_rok (by omega) (by decide)) ⟨rfl, rfl⟩ ⟨Nat.le_refl _, Nat.le_refl _⟩ (fun k23 => ?_)
          refine n_if_ne 152 dX12_test_135 (by decide) (fun c24 => ?_) (fun c24 => ?_)
          · have h := yb_ifn c24 h
            exact p_jump (tj_X12_test_152 H_X12_each H_X12_either H_X12_test h) (And.intro rfl (And.intro rfl trivial))
          · have h := yb_ifp c24 h
            refine n_aload_n (i := 0) dX12_test_138 rfl rfl ?_
            refine n_bipush (61 : Int32) dX12_test_139 bp_61 ?_
            obtain ⟨q25, hq25, h⟩ := yb_bind h
            refine p_callVi (As := [.int (61 : Int32)]) (t_X12_isSign hq25) cv_X12_394 (sh_176 _ _) rfl rfl (Nat.le_of_ble_eq_true rfl) dX12_test_141 (yb_rok (by omega) (by decide)) ⟨rfl, rfl⟩ ⟨Nat.le_refl _, Nat.le_refl _⟩ (fun k26 => ?_)
            refine n_if_ne 152 dX12_test_144 (by decide) (fun c27 => ?_) (fun c27 => ?_)
            · have h := yb_ifn c27 h
              exact p_jump (tj_X12_test_152 H_X12_each H_X12_either H_X12_test h) (And.intro rfl (And.intro rfl trivial))
            · have h := yb_ifp c27 h
              refine n_aload_n (i := 0) dX12_test_147 rfl rfl ?_
              obtain ⟨q28, hq28, h⟩ := yb_bind h
              refine p_callVi (As := []) (t_X12_fails hq28) cv_X12_376 (sh_176 _ _) rfl rfl (Nat.le_of_ble_eq_true rfl) dX12_test_148 (yb_rok (by omega) (by decide)) ⟨rfl, rfl⟩ ⟨Nat.le_refl _, Nat.le_refl _⟩ (fun k29 => ?_)
              cases h
              exact n_iret dX12_test_151 rfl (yb_okv_b k29) (Nat.le_refl _) (Nat.le_refl _) ⟨rfl, rfl⟩
      · have h := yb_ifp c9 h
        refine n_iconst (0 : Int32) dX12_test_118 ic_0 ?_
        cases h
        exact n_iret dX12_test_119 rfl (by decide) (Nat.le_refl _) (Nat.le_refl _) ⟨rfl, rfl⟩
    · have h := yb_ifn c6 h
      refine n_aload_n (i := 0) dX12_test_63 rfl rfl ?_
      refine n_iload_n (i := 1) dX12_test_64 rfl rfl ?_
      refine n_bipush (8 : Int32) dX12_test_65 bp_8 ?_
      refine n_icmp_ge 74 dX12_test_67 (by decide) (fun c30 => ?_) (fun c30 => ?_)
      · have h := yb_ifp c30 h
        refine n_iconst (0 : Int32) dX12_test_74 ic_0 ?_
        exact p_jump (tj_X12_test_75 H_X12_each H_X12_either H_X12_test h) (And.intro rfl (And.intro rfl trivial))
      · have h := yb_ifn c30 h
        refine n_iconst (1 : Int32) dX12_test_70 ic_1 ?_
        refine n_goto 75 dX12_test_71 (by decide) ?_
        exact p_jump (tj_X12_test_75 H_X12_each H_X12_either H_X12_test h) (And.intro rfl (And.intro rfl trivial))
  · have h := yb_ifn c3 h
    refine n_aload_n (i := 0) dX12_test_10 rfl rfl ?_
    refine n_iload_n (i := 1) dX12_test_11 rfl rfl ?_
    refine n_bipush (8 : Int32) dX12_test_12 bp_8 ?_
    refine n_icmp_ge 21 dX12_test_14 (by decide) (fun c42 => ?_) (fun c42 => ?_)
    · have h := yb_ifp c42 h
      refine n_iconst (0 : Int32) dX12_test_21 ic_0 ?_
      exact p_jump (tj_X12_test_22 H_X12_each H_X12_either H_X12_test h) (And.intro rfl (And.intro rfl trivial))
    · have h := yb_ifn c42 h
      refine n_iconst (1 : Int32) dX12_test_17 ic_1 ?_
      refine n_goto 22 dX12_test_18 (by decide) ?_
      exact p_jump (tj_X12_test_22 H_X12_each H_X12_either H_X12_test h) (And.intro rfl (And.intro rfl trivial))
set_option maxHeartbeats 4000000 in
set_option maxRecDepth 20000 in
theorem tg_X12_each (G : yb_G) (X : List (FieldType × Nat)) : ∀ n : Nat, (∀ (a1 : Int32) (s : yb_S) (out : (Int32 × yb_S)), (gg_X12_each n).1 a1 s = some out → Ct G yX12_each cX12_each 2 (Option.some .boolean) (yb_rm (129 + n)) [.ref (yb_ad G 176), .int a1] (yb_mk s X) (yb_qi X out.2 out.1)) ∧ (∀ (a1 : Int32) (s : yb_S) (out : (Int32 × yb_S)), (gg_X12_each n).2.1 a1 s = some out → Ct G yX12_either cX12_either 2 (Option.some .boolean) (yb_rm (129 + n)) [.ref (yb_ad G 176), .int a1] (yb_mk s X) (yb_qi X out.2 out.1)) ∧ (∀ (a1 : Int32) (s : yb_S) (out : (Int32 × yb_S)), (gg_X12_each n).2.2 a1 s = some out → Ct G yX12_test cX12_test 3 (Option.some .boolean) (yb_rm (129 + n)) [.ref (yb_ad G 176), .int a1] (yb_mk s X) (yb_qi X out.2 out.1)) := by
  intro n
  induction n with
  | zero => exact ⟨(fun _ _ _ h => by cases h), (fun _ _ _ h => by cases h), (fun _ _ _ h => by cases h)⟩
  | succ n ih =>
    obtain ⟨h0, h1, h2⟩ := ih
    rw [show 129 + (n + 1) = 130 + n from by omega]
    exact ⟨(fun a1 s out h => t_X12_each h0 h1 h2 h), (fun a1 s out h => t_X12_either h0 h1 h2 h), (fun a1 s out h => t_X12_test h0 h1 h2 h)⟩
set_option maxHeartbeats 4000000 in
set_option maxRecDepth 20000 in
theorem tt_X12_each {G : yb_G} {X : List (FieldType × Nat)} {a1 : Int32} {s : yb_S} {out : (Int32 × yb_S)} (h : g_X12_each a1 s = some out) : Ct G yX12_each cX12_each 2 (Option.some .boolean) (yb_rm 249) [.ref (yb_ad G 176), .int a1] (yb_mk s X) (yb_qi X out.2 out.1) := (tg_X12_each G X 120).1 a1 s out h
set_option maxHeartbeats 4000000 in
set_option maxRecDepth 20000 in
theorem tt_X12_either {G : yb_G} {X : List (FieldType × Nat)} {a1 : Int32} {s : yb_S} {out : (Int32 × yb_S)} (h : g_X12_either a1 s = some out) : Ct G yX12_either cX12_either 2 (Option.some .boolean) (yb_rm 249) [.ref (yb_ad G 176), .int a1] (yb_mk s X) (yb_qi X out.2 out.1) := (tg_X12_each G X 120).2.1 a1 s out h
set_option maxHeartbeats 4000000 in
set_option maxRecDepth 20000 in
theorem tt_X12_test {G : yb_G} {X : List (FieldType × Nat)} {a1 : Int32} {s : yb_S} {out : (Int32 × yb_S)} (h : g_X12_test a1 s = some out) : Ct G yX12_test cX12_test 3 (Option.some .boolean) (yb_rm 249) [.ref (yb_ad G 176), .int a1] (yb_mk s X) (yb_qi X out.2 out.1) := (tg_X12_each G X 120).2.2 a1 s out h
set_option maxHeartbeats 4000000 in
set_option maxRecDepth 20000 in
theorem tj_X12_clauses_108 {G : yb_G} {X : List (FieldType × Nat)} {s : yb_S} {out : (Int32 × yb_S)} (h : j_X12_clauses_108 s = some out) : Rn G RX12 cX12_clauses 2 (Option.some .boolean) false (yb_rm 250) (yb_qi X out.2 out.1) 0 0 108 [some (.ref (yb_ad G 176)), none] [] (yb_mk s X) := by
  unfold j_X12_clauses_108 at h
  refine n_aload_n (i := 0) dX12_clauses_108 rfl rfl ?_
  refine p_getr fl_X12_128 (sh_176 _ _) rfl (rR_176_51 _ _) dX12_clauses_109 ?_
  refine n_bipush (10 : Int32) dX12_clauses_112 bp_10 ?_
  obtain ⟨r12, hr12, h⟩ := yb_bind h
  refine p_aald hr12 (sh_321 _ _) (by decide) rfl (rF_321 _ _) dX12_clauses_114 ?_
  refine n_aload_n (i := 0) dX12_clauses_115 rfl rfl ?_
  refine p_geti fl_X12_383 (sh_176 _ _) rfl dX12_clauses_116 ?_
  refine n_aload_n (i := 0) dX12_clauses_119 rfl rfl ?_
  refine p_geti fl_X12_386 (sh_176 _ _) rfl dX12_clauses_120 ?_
  obtain ⟨s13, hs13, h⟩ := yb_bind h
  refine p_iast hs13 (shF_321 hr12 _ _) dX12_clauses_123 ?_
  refine n_aload_n (i := 0) dX12_clauses_124 rfl rfl ?_
  refine n_aload_n (i := 0) dX12_clauses_125 rfl rfl ?_
  refine n_bipush (59 : Int32) dX12_clauses_126 bp_59 ?_
  obtain ⟨q14, hq14, h⟩ := yb_bind h
  refine p_callVi (As := [.int (59 : Int32)]) (t_X12_isSign hq14) cv_X12_394 (sh_176 _ _) rfl rfl (Nat.le_of_ble_eq_true rfl) dX12_clauses_128 (yb_rok (Nat.le_of_ble_eq_true rfl) (by decide)) ⟨rfl, rfl⟩ ⟨Nat.le_refl _, Nat.le_refl _⟩ (fun k15 => ?_)
  obtain ⟨q16, hq16, h⟩ := yb_bind h
  refine p_callVi (As := [.int q14]) (t_X12_passes hq16) cv_X12_397 (sh_176 _ _) rfl rfl (Nat.le_of_ble_eq_true rfl) dX12_clauses_131 (yb_rok (Nat.le_of_ble_eq_true rfl) (by decide)) ⟨rfl, rfl⟩ ⟨Nat.le_refl _, Nat.le_refl _⟩ (fun k17 => ?_)
  cases h
  exact n_iret dX12_clauses_134 rfl (yb_okv_b k17) (Nat.le_refl _) (Nat.le_refl _) ⟨rfl, rfl⟩
set_option maxHeartbeats 4000000 in
set_option maxRecDepth 20000 in
theorem tj_X12_clauses_66 {G : yb_G} {X : List (FieldType × Nat)} {y0 : Int32} {s : yb_S} {out : (Int32 × yb_S)} (h : j_X12_clauses_66 y0 s = some out) : Rn G RX12 cX12_clauses 2 (Option.some .boolean) false (yb_rm 250) (yb_qi X out.2 out.1) 0 0 66 [some (.ref (yb_ad G 176)), none] [.int y0, .ref (yb_ad G 176)] (yb_mk s X) := by
  unfold j_X12_clauses_66 at h
  obtain ⟨q4, hq4, h⟩ := yb_bind h
  refine p_callVi (As := [.int y0]) (t_X12_passes hq4) cv_X12_397 (sh_176 _ _) rfl rfl (Nat.le_of_ble_eq_true rfl) dX12_clauses_66 (yb_rok (Nat.le_of_ble_eq_true rfl) (by decide)) ⟨rfl, rfl⟩ ⟨Nat.le_refl _, Nat.le_refl _⟩ (fun k5 => ?_)
  refine n_if_ne 74 dX12_clauses_69 (by decide) (fun c6 => ?_) (fun c6 => ?_)
  · have h := yb_ifn c6 h
    refine n_aload_n (i := 0) dX12_clauses_74 rfl rfl ?_
    refine n_iconst (0 : Int32) dX12_clauses_75 ic_0 ?_
    obtain ⟨s7, hs7, h⟩ := yb_bind h
    refine p_puti hs7 fp_X12_386 (sh_176 _ _) rfl rfl rfl dX12_clauses_76 ?_
    refine n_aload_n (i := 0) dX12_clauses_79 rfl rfl ?_
    refine p_geti fl_X12_383 (sh_176 _ _) rfl dX12_clauses_80 ?_
    refine n_iconst (4 : Int32) dX12_clauses_83 ic_4 ?_
    refine n_icmp_ge 98 dX12_clauses_84 (by decide) (fun c8 => ?_) (fun c8 => ?_)
    · have h := yb_ifp c8 h
      refine n_aload_n (i := 0) dX12_clauses_98 rfl rfl ?_
      refine n_iconst (0 : Int32) dX12_clauses_99 ic_0 ?_
      obtain ⟨q9, hq9, h⟩ := yb_bind h
      refine p_callVi (As := [.int (0 : Int32)]) (tt_X12_either hq9) cv_X12_424 (sh_176 _ _) rfl rfl (Nat.le_of_ble_eq_true rfl) dX12_clauses_100 (yb_rok (Nat.le_of_ble_eq_true rfl) (by decide)) ⟨rfl, rfl⟩ ⟨Nat.le_refl _, Nat.le_refl _⟩ (fun k10 => ?_)
      refine n_if_ne 108 dX12_clauses_103 (by decide) (fun c11 => ?_) (fun c11 => ?_)
      · have h := yb_ifn c11 h
        exact p_jump (tj_X12_clauses_108 h) (And.intro rfl trivial)
      · have h := yb_ifp c11 h
        refine n_iconst (0 : Int32) dX12_clauses_106 ic_0 ?_
        cases h
        exact n_iret dX12_clauses_107 rfl (by decide) (Nat.le_refl _) (Nat.le_refl _) ⟨rfl, rfl⟩
    · have h := yb_ifn c8 h
      refine n_aload_n (i := 0) dX12_clauses_87 rfl rfl ?_
      refine n_iconst (0 : Int32) dX12_clauses_88 ic_0 ?_
      obtain ⟨q18, hq18, h⟩ := yb_bind h
      refine p_callVi (As := [.int (0 : Int32)]) (tt_X12_sum hq18) cv_X12_401 (sh_176 _ _) rfl rfl (Nat.le_of_ble_eq_true rfl) dX12_clauses_89 (yb_rok (Nat.le_of_ble_eq_true rfl) (by decide)) ⟨rfl, rfl⟩ ⟨Nat.le_refl _, Nat.le_refl _⟩ (fun k19 => ?_)
      refine n_if_ne 108 dX12_clauses_92 (by decide) (fun c20 => ?_) (fun c20 => ?_)
      · have h := yb_ifn c20 h
        exact p_jump (tj_X12_clauses_108 h) (And.intro rfl trivial)
      · have h := yb_ifp c20 h
        refine n_goto 106 dX12_clauses_95 (by decide) ?_
        refine n_iconst (0 : Int32) dX12_clauses_106 ic_0 ?_
        cases h
        exact n_iret dX12_clauses_107 rfl (by decide) (Nat.le_refl _) (Nat.le_refl _) ⟨rfl, rfl⟩
  · have h := yb_ifp c6 h
    refine n_iconst (0 : Int32) dX12_clauses_72 ic_0 ?_
    cases h
    exact n_iret dX12_clauses_73 rfl (by decide) (Nat.le_refl _) (Nat.le_refl _) ⟨rfl, rfl⟩
set_option maxHeartbeats 4000000 in
set_option maxRecDepth 20000 in
theorem tj_X12_clauses_65 {G : yb_G} {X : List (FieldType × Nat)} {s : yb_S} {out : (Int32 × yb_S)} (h : j_X12_clauses_65 s = some out) : Rn G RX12 cX12_clauses 2 (Option.some .boolean) false (yb_rm 250) (yb_qi X out.2 out.1) 0 0 65 [some (.ref (yb_ad G 176)), none] [.ref (yb_ad G 176)] (yb_mk s X) := by
  unfold j_X12_clauses_65 at h
  refine n_iconst (0 : Int32) dX12_clauses_65 ic_0 ?_
  exact p_jump (tj_X12_clauses_66 h) (And.intro rfl trivial)
set_option maxHeartbeats 4000000 in
set_option maxRecDepth 20000 in
theorem tj_X12_clauses_31 {G : yb_G} {X : List (FieldType × Nat)} {rc7 : (Int32 → yb_S → Option (Int32 × yb_S))} {x1 : Int32} {s : yb_S} {out : (Int32 × yb_S)} (hrc7 : ∀ (x1' : Int32) (s' : yb_S), rc7 x1' s' = some out → Rn G RX12 cX12_clauses 2 (Option.some .boolean) false (yb_rm 250) (yb_qi X out.2 out.1) 0 0 7 [some (.ref (yb_ad G 176)), some (.int x1')] [] (yb_mk s' X)) (h : j_X12_clauses_31 rc7 x1 s = some out) : Rn G RX12 cX12_clauses 2 (Option.some .boolean) false (yb_rm 250) (yb_qi X out.2 out.1) 0 0 31 [some (.ref (yb_ad G 176)), some (.int x1)] [] (yb_mk s X) := by
  unfold j_X12_clauses_31 at h
  refine n_iinc (vs' := [some (.ref (yb_ad G 176)), some (.int (x1 + (1 : Int32)))]) dX12_clauses_31 rfl (ii_1 _) (Nat.le_of_ble_eq_true rfl) rfl rfl ?_
  refine n_goto 7 dX12_clauses_34 (by decide) ?_
  exact p_jump (hrc7 (x1 + (1 : Int32)) s h) (And.intro rfl (And.intro rfl trivial))
set_option maxHeartbeats 4000000 in
set_option maxRecDepth 20000 in
theorem t_l_X12_clauses_7 {G : yb_G} {X : List (FieldType × Nat)} {out : (Int32 × yb_S)} : ∀ (k0 : Nat) (x1 : Int32) (s : yb_S), l_X12_clauses_7 k0 x1 s = some out → Rn G RX12 cX12_clauses 2 (Option.some .boolean) false (yb_rm 250) (yb_qi X out.2 out.1) 0 0 7 [some (.ref (yb_ad G 176)), some (.int x1)] [] (yb_mk s X) := by
  intro k0
  induction k0 with
  | zero => intro x1 s h; cases h
  | succ k0 ih =>
    intro x1 s h
    have h : f_X12_clauses_7 (fun x1 s => l_X12_clauses_7 k0 x1 s) x1 s = some out := h
    have hrc7 := ih
    unfold f_X12_clauses_7 at h
    refine n_iload_n (i := 1) dX12_clauses_7 rfl rfl ?_
    refine n_bipush (6 : Int32) dX12_clauses_8 bp_6 ?_
    refine n_icmp_ge 37 dX12_clauses_10 (by decide) (fun c2 => ?_) (fun c2 => ?_)
    · have h := yb_ifp c2 h
      refine n_aload_n (i := 0) dX12_clauses_37 rfl rfl ?_
      refine n_aload_n (i := 0) dX12_clauses_38 rfl rfl ?_
      refine p_geti fl_X12_383 (sh_176 _ _) rfl dX12_clauses_39 ?_
      refine n_iconst (-1 : Int32) dX12_clauses_42 ic_m1 ?_
      refine n_icmp_eq 65 dX12_clauses_43 (by decide) (fun c3 => ?_) (fun c3 => ?_)
      · have h := yb_ifp c3 h
        exact p_jump (tj_X12_clauses_65 h) (And.intro rfl trivial)
      · have h := yb_ifn c3 h
        refine n_aload_n (i := 0) dX12_clauses_46 rfl rfl ?_
        refine p_getr fl_X12_128 (sh_176 _ _) rfl (rR_176_51 _ _) dX12_clauses_47 ?_
        refine n_bipush (10 : Int32) dX12_clauses_50 bp_10 ?_
        obtain ⟨r21, hr21, h⟩ := yb_bind h
        refine p_aald hr21 (sh_321 _ _) (by decide) rfl (rF_321 _ _) dX12_clauses_52 ?_
        refine n_aload_n (i := 0) dX12_clauses_53 rfl rfl ?_
        refine p_geti fl_X12_383 (sh_176 _ _) rfl dX12_clauses_54 ?_
        obtain ⟨v22, hv22, h⟩ := yb_bind h
        refine p_iald hv22 (shF_321 hr21 _ _) dX12_clauses_57 ?_
        refine n_if_ne 65 dX12_clauses_58 (by decide) (fun c23 => ?_) (fun c23 => ?_)
        · have h := yb_ifn c23 h
          exact p_jump (tj_X12_clauses_65 h) (And.intro rfl trivial)
        · have h := yb_ifp c23 h
          refine n_iconst (1 : Int32) dX12_clauses_61 ic_1 ?_
          refine n_goto 66 dX12_clauses_62 (by decide) ?_
          exact p_jump (tj_X12_clauses_66 h) (And.intro rfl trivial)
    · have h := yb_ifn c2 h
      refine n_aload_n (i := 0) dX12_clauses_13 rfl rfl ?_
      refine n_aload_n (i := 0) dX12_clauses_14 rfl rfl ?_
      refine p_getr fl_X12_151 (sh_176 _ _) rfl (rR_176_56 _ _) dX12_clauses_15 ?_
      refine n_iload_n (i := 1) dX12_clauses_18 rfl rfl ?_
      obtain ⟨r24, hr24, h⟩ := yb_bind h
      refine p_aald hr24 (sh_335 _ _) (by decide) rfl (rF_335 _ _) dX12_clauses_19 ?_
      obtain ⟨q25, hq25, h⟩ := yb_bind h
      refine p_callVi (As := [.ref (yb_ad G r24)]) (t_X12_isWord_str hq25) cv_X12_409 (sh_176 _ _) rfl rfl (Nat.le_of_ble_eq_true rfl) dX12_clauses_20 (yb_rok (Nat.le_of_ble_eq_true rfl) (by decide)) ⟨rfl, rfl⟩ ⟨Nat.le_refl _, Nat.le_refl _⟩ (fun k26 => ?_)
      refine n_if_eq 31 dX12_clauses_23 (by decide) (fun c27 => ?_) (fun c27 => ?_)
      · have h := yb_ifp c27 h
        exact p_jump (tj_X12_clauses_31 hrc7 h) (And.intro rfl (And.intro rfl trivial))
      · have h := yb_ifn c27 h
        refine n_aload_n (i := 0) dX12_clauses_26 rfl rfl ?_
        refine n_iload_n (i := 1) dX12_clauses_27 rfl rfl ?_
        obtain ⟨s28, hs28, h⟩ := yb_bind h
        refine p_puti hs28 fp_X12_383 (sh_176 _ _) rfl rfl rfl dX12_clauses_28 ?_
        exact p_jump (tj_X12_clauses_31 hrc7 h) (And.intro rfl (And.intro rfl trivial))
set_option maxHeartbeats 4000000 in
set_option maxRecDepth 20000 in
theorem tl_X12_clauses_7 {G : yb_G} {X : List (FieldType × Nat)} {out : (Int32 × yb_S)} {x1 : Int32} {s : yb_S} (h : l_X12_clauses_7 yb_N x1 s = some out) : Rn G RX12 cX12_clauses 2 (Option.some .boolean) false (yb_rm 250) (yb_qi X out.2 out.1) 0 0 7 [some (.ref (yb_ad G 176)), some (.int x1)] [] (yb_mk s X) := t_l_X12_clauses_7 _ _ _ h
set_option maxHeartbeats 4000000 in
set_option maxRecDepth 20000 in
theorem t_X12_clauses {G : yb_G} {X : List (FieldType × Nat)} {s : yb_S} {out : (Int32 × yb_S)} (h : f_X12_clauses s = some out) : Ct G yX12_clauses cX12_clauses 2 (Option.some .boolean) (yb_rm 250) [.ref (yb_ad G 176)] (yb_mk s X) (yb_qi X out.2 out.1) := by
  refine Ct.of (own := RX12) (ini := false) (vs := [some (.ref (yb_ad G 176)), none]) ⟨rfl, by decide +kernel⟩ (fun h => by cases h) (Nat.le_of_ble_eq_true rfl) rfl ?_
  unfold f_X12_clauses at h
  refine n_aload_n (i := 0) dX12_clauses_0 rfl rfl ?_
  refine n_iconst (-1 : Int32) dX12_clauses_1 ic_m1 ?_
  obtain ⟨s1, hs1, h⟩ := yb_bind h
  refine p_puti hs1 fp_X12_383 (sh_176 _ _) rfl rfl rfl dX12_clauses_2 ?_
  refine n_iconst (0 : Int32) dX12_clauses_5 ic_0 ?_
  refine n_istore_n (i := 1) (vs' := [some (.ref (yb_ad G 176)), some (.int (0 : Int32))]) dX12_clauses_6 rfl (Nat.le_of_ble_eq_true rfl) rfl rfl ?_
  exact p_jump (tl_X12_clauses_7 h) (And.intro rfl (And.intro rfl trivial))
set_option maxHeartbeats 4000000 in
set_option maxRecDepth 20000 in
theorem tj_X12_hallHeads_32 {G : yb_G} {X : List (FieldType × Nat)} {rc4 : (Int32 → Int32 → Option Int32)} {x2 : Int32} {y0 : Int32} {y1 : Int32} {s : yb_S} {out : Int32} (hrc4 : ∀ (x1' : Int32) (x2' : Int32), rc4 x1' x2' = some out → Rn G RX12 cX12_hallHeads 3 (Option.some .int) false (yb_rm 1) (yb_qi X s out) 0 0 4 [some (.ref (yb_ad G 176)), some (.int x1'), some (.int x2')] [] (yb_mk s X)) (h : j_X12_hallHeads_32 rc4 x2 y0 y1 s = some out) : Rn G RX12 cX12_hallHeads 3 (Option.some .int) false (yb_rm 1) (yb_qi X s out) 0 0 32 [some (.ref (yb_ad G 176)), none, some (.int x2)] [.int y0, .int y1] (yb_mk s X) := by
  unfold j_X12_hallHeads_32 at h
  refine n_iadd dX12_hallHeads_32 ?_
  refine n_istore_n (i := 1) (vs' := [some (.ref (yb_ad G 176)), some (.int (y1 + y0)), some (.int x2)]) dX12_hallHeads_33 rfl (Nat.le_of_ble_eq_true rfl) rfl rfl ?_
  refine n_iinc (vs' := [some (.ref (yb_ad G 176)), some (.int (y1 + y0)), some (.int (x2 + (1 : Int32)))]) dX12_hallHeads_34 rfl (ii_1 _) (Nat.le_of_ble_eq_true rfl) rfl rfl ?_
  refine n_goto 4 dX12_hallHeads_37 (by decide) ?_
  exact p_jump (hrc4 (y1 + y0) (x2 + (1 : Int32)) h) (And.intro rfl (And.intro rfl (And.intro rfl trivial)))
set_option maxHeartbeats 4000000 in
set_option maxRecDepth 20000 in
theorem t_l_X12_hallHeads_4 {G : yb_G} {X : List (FieldType × Nat)} {s : yb_S} {out : Int32} : ∀ (k0 : Nat) (x1 : Int32) (x2 : Int32), l_X12_hallHeads_4 s k0 x1 x2 = some out → Rn G RX12 cX12_hallHeads 3 (Option.some .int) false (yb_rm 1) (yb_qi X s out) 0 0 4 [some (.ref (yb_ad G 176)), some (.int x1), some (.int x2)] [] (yb_mk s X) := by
  intro k0
  induction k0 with
  | zero => intro x1 x2 h; cases h
  | succ k0 ih =>
    intro x1 x2 h
    have h : f_X12_hallHeads_4 (fun x1 x2 => l_X12_hallHeads_4 s k0 x1 x2) s x1 x2 = some out := h
    have hrc4 := ih
    unfold f_X12_hallHeads_4 at h
    refine n_iload_n (i := 2) dX12_hallHeads_4 rfl rfl ?_
    refine n_aload_n (i := 0) dX12_hallHeads_5 rfl rfl ?_
    refine p_geti fl_X12_254 (sh_176 _ _) rfl dX12_hallHeads_6 ?_
    refine n_icmp_ge 40 dX12_hallHeads_9 (by decide) (fun c1 => ?_) (fun c1 => ?_)
    · have h := yb_ifp c1 h
      refine n_iload_n (i := 1) dX12_hallHeads_40 rfl rfl ?_
      cases h
      exact n_iret dX12_hallHeads_41 rfl rfl (Nat.le_refl _) (Nat.le_refl _) ⟨rfl, rfl⟩
    · have h := yb_ifn c1 h
      refine n_iload_n (i := 1) dX12_hallHeads_12 rfl rfl ?_
      refine n_aload_n (i := 0) dX12_hallHeads_13 rfl rfl ?_
      refine p_getr fl_X12_66 (sh_176 _ _) rfl (rR_176_22 _ _) dX12_hallHeads_14 ?_
      refine n_iload_n (i := 2) dX12_hallHeads_17 rfl rfl ?_
      obtain ⟨v2, hv2, h⟩ := yb_bind h
      refine p_iald hv2 (sh_195 _ _) dX12_hallHeads_18 ?_
      refine n_if_ne 31 dX12_hallHeads_19 (by decide) (fun c3 => ?_) (fun c3 => ?_)
      · have h := yb_ifn c3 h
        refine n_iconst (0 : Int32) dX12_hallHeads_31 ic_0 ?_
        exact p_jump (tj_X12_hallHeads_32 hrc4 h) (And.intro rfl (And.intro rfl trivial))
      · have h := yb_ifp c3 h
        refine n_aload_n (i := 0) dX12_hallHeads_22 rfl rfl ?_
        refine p_getr fl_X12_48 (sh_176 _ _) rfl (rR_176_16 _ _) dX12_hallHeads_23 ?_
        refine n_iload_n (i := 2) dX12_hallHeads_26 rfl rfl ?_
        obtain ⟨v4, hv4, h⟩ := yb_bind h
        refine p_iald hv4 (sh_189 _ _) dX12_hallHeads_27 ?_
        refine n_goto 32 dX12_hallHeads_28 (by decide) ?_
        exact p_jump (tj_X12_hallHeads_32 hrc4 h) (And.intro rfl (And.intro rfl trivial))
set_option maxHeartbeats 4000000 in
set_option maxRecDepth 20000 in
theorem tl_X12_hallHeads_4 {G : yb_G} {X : List (FieldType × Nat)} {s : yb_S} {out : Int32} {x1 : Int32} {x2 : Int32} (h : l_X12_hallHeads_4 s yb_N x1 x2 = some out) : Rn G RX12 cX12_hallHeads 3 (Option.some .int) false (yb_rm 1) (yb_qi X s out) 0 0 4 [some (.ref (yb_ad G 176)), some (.int x1), some (.int x2)] [] (yb_mk s X) := t_l_X12_hallHeads_4 _ _ _ h
set_option maxHeartbeats 4000000 in
set_option maxRecDepth 20000 in
theorem t_X12_hallHeads {G : yb_G} {X : List (FieldType × Nat)} {s : yb_S} {out : Int32} (h : f_X12_hallHeads s = some out) : Ct G yX12_hallHeads cX12_hallHeads 3 (Option.some .int) (yb_rm 1) [.ref (yb_ad G 176)] (yb_mk s X) (yb_qi X s out) := by
  refine Ct.of (own := RX12) (ini := false) (vs := [some (.ref (yb_ad G 176)), none, none]) ⟨rfl, by decide +kernel⟩ (fun h => by cases h) (Nat.le_of_ble_eq_true rfl) rfl ?_
  unfold f_X12_hallHeads at h
  refine n_iconst (0 : Int32) dX12_hallHeads_0 ic_0 ?_
  refine n_istore_n (i := 1) (vs' := [some (.ref (yb_ad G 176)), some (.int (0 : Int32)), none]) dX12_hallHeads_1 rfl (Nat.le_of_ble_eq_true rfl) rfl rfl ?_
  refine n_iconst (0 : Int32) dX12_hallHeads_2 ic_0 ?_
  refine n_istore_n (i := 2) (vs' := [some (.ref (yb_ad G 176)), some (.int (0 : Int32)), some (.int (0 : Int32))]) dX12_hallHeads_3 rfl (Nat.le_of_ble_eq_true rfl) rfl rfl ?_
  exact p_jump (tl_X12_hallHeads_4 h) (And.intro rfl (And.intro rfl (And.intro rfl trivial)))
set_option maxHeartbeats 4000000 in
set_option maxRecDepth 20000 in
theorem t_X12_count {G : yb_G} {X : List (FieldType × Nat)} {a1 : Int32} {s : yb_S} {out : Int32} (h : f_X12_count a1 s = some out) : Ct G yX12_count cX12_count 2 (Option.some .int) (yb_rm 2) [.ref (yb_ad G 176), .int a1] (yb_mk s X) (yb_qi X s out) := by
  refine Ct.of (own := RX12) (ini := false) (vs := [some (.ref (yb_ad G 176)), some (.int a1)]) ⟨rfl, by decide +kernel⟩ (fun h => by cases h) (Nat.le_of_ble_eq_true rfl) rfl ?_
  unfold f_X12_count at h
  refine n_iload_n (i := 1) dX12_count_0 rfl rfl ?_
  by_cases c1 : a1 = (0 : Int32)
  · have h := yb_ifp c1 h
    refine n_tableIn (off := 67) 68 dX12_count_1 (by rw [c1]; decide) (by rw [c1]; decide) (by rw [c1]; decide) (by decide) ?_
    refine n_aload_n (i := 0) dX12_count_68 rfl rfl ?_
    refine p_geti fl_X12_275 (sh_176 _ _) rfl dX12_count_69 ?_
    cases h
    exact n_iret dX12_count_72 rfl rfl (Nat.le_refl _) (Nat.le_refl _) ⟨rfl, rfl⟩
  · have h := yb_ifn c1 h
    by_cases c2 : a1 = (1 : Int32)
    · have h := yb_ifp c2 h
      refine n_tableIn (off := 72) 73 dX12_count_1 (by rw [c2]; decide) (by rw [c2]; decide) (by rw [c2]; decide) (by decide) ?_
      refine n_aload_n (i := 0) dX12_count_73 rfl rfl ?_
      refine p_geti fl_X12_244 (sh_176 _ _) rfl dX12_count_74 ?_
      cases h
      exact n_iret dX12_count_77 rfl rfl (Nat.le_refl _) (Nat.le_refl _) ⟨rfl, rfl⟩
    · have h := yb_ifn c2 h
      by_cases c3 : a1 = (2 : Int32)
      · have h := yb_ifp c3 h
        refine n_tableIn (off := 77) 78 dX12_count_1 (by rw [c3]; decide) (by rw [c3]; decide) (by rw [c3]; decide) (by decide) ?_
        refine n_aload_n (i := 0) dX12_count_78 rfl rfl ?_
        refine p_geti fl_X12_251 (sh_176 _ _) rfl dX12_count_79 ?_
        cases h
        exact n_iret dX12_count_82 rfl rfl (Nat.le_refl _) (Nat.le_refl _) ⟨rfl, rfl⟩
      · have h := yb_ifn c3 h
        by_cases c4 : a1 = (3 : Int32)
        · have h := yb_ifp c4 h
          refine n_tableIn (off := 82) 83 dX12_count_1 (by rw [c4]; decide) (by rw [c4]; decide) (by rw [c4]; decide) (by decide) ?_
          refine n_aload_n (i := 0) dX12_count_83 rfl rfl ?_
          refine p_geti fl_X12_254 (sh_176 _ _) rfl dX12_count_84 ?_
          cases h
          exact n_iret dX12_count_87 rfl rfl (Nat.le_refl _) (Nat.le_refl _) ⟨rfl, rfl⟩
        · have h := yb_ifn c4 h
          by_cases c5 : a1 = (4 : Int32)
          · have h := yb_ifp c5 h
            refine n_tableIn (off := 87) 88 dX12_count_1 (by rw [c5]; decide) (by rw [c5]; decide) (by rw [c5]; decide) (by decide) ?_
            refine n_aload_n (i := 0) dX12_count_88 rfl rfl ?_
            refine p_geti fl_X12_290 (sh_176 _ _) rfl dX12_count_89 ?_
            cases h
            exact n_iret dX12_count_92 rfl rfl (Nat.le_refl _) (Nat.le_refl _) ⟨rfl, rfl⟩
          · have h := yb_ifn c5 h
            by_cases c6 : a1 = (5 : Int32)
            · have h := yb_ifp c6 h
              refine n_tableIn (off := 92) 93 dX12_count_1 (by rw [c6]; decide) (by rw [c6]; decide) (by rw [c6]; decide) (by decide) ?_
              refine n_aload_n (i := 0) dX12_count_93 rfl rfl ?_
              refine p_geti fl_X12_440 (sh_176 _ _) rfl dX12_count_94 ?_
              cases h
              exact n_iret dX12_count_97 rfl rfl (Nat.le_refl _) (Nat.le_refl _) ⟨rfl, rfl⟩
            · have h := yb_ifn c6 h
              by_cases c7 : a1 = (6 : Int32)
              · have h := yb_ifp c7 h
                refine n_tableIn (off := 97) 98 dX12_count_1 (by rw [c7]; decide) (by rw [c7]; decide) (by rw [c7]; decide) (by decide) ?_
                refine n_aload_n (i := 0) dX12_count_98 rfl rfl ?_
                refine p_geti fl_X12_343 (sh_176 _ _) rfl dX12_count_99 ?_
                cases h
                exact n_iret dX12_count_102 rfl rfl (Nat.le_refl _) (Nat.le_refl _) ⟨rfl, rfl⟩
              · have h := yb_ifn c7 h
                by_cases c8 : a1 = (7 : Int32)
                · have h := yb_ifp c8 h
                  refine n_tableIn (off := 102) 103 dX12_count_1 (by rw [c8]; decide) (by rw [c8]; decide) (by rw [c8]; decide) (by decide) ?_
                  refine n_aload_n (i := 0) dX12_count_103 rfl rfl ?_
                  obtain ⟨q14, hq14, h⟩ := yb_bind h
                  refine p_callVi (As := []) (t_X12_hallHeads hq14) cv_X12_583 (sh_176 _ _) rfl rfl (Nat.le_of_ble_eq_true rfl) dX12_count_104 (yb_rok (Nat.le_of_ble_eq_true rfl) (by decide)) ⟨rfl, rfl⟩ ⟨Nat.le_refl _, Nat.le_refl _⟩ (fun k15 => ?_)
                  cases h
                  exact n_iret dX12_count_107 rfl rfl (Nat.le_refl _) (Nat.le_refl _) ⟨rfl, rfl⟩
                · have h := yb_ifn c8 h
                  by_cases c9 : a1 = (8 : Int32)
                  · have h := yb_ifp c9 h
                    refine n_tableIn (off := 107) 108 dX12_count_1 (by rw [c9]; decide) (by rw [c9]; decide) (by rw [c9]; decide) (by decide) ?_
                    refine n_aload_n (i := 0) dX12_count_108 rfl rfl ?_
                    refine p_geti fl_X12_272 (sh_176 _ _) rfl dX12_count_109 ?_
                    cases h
                    exact n_iret dX12_count_112 rfl rfl (Nat.le_refl _) (Nat.le_refl _) ⟨rfl, rfl⟩
                  · have h := yb_ifn c9 h
                    by_cases c10 : a1 = (9 : Int32)
                    · have h := yb_ifp c10 h
                      refine n_tableIn (off := 112) 113 dX12_count_1 (by rw [c10]; decide) (by rw [c10]; decide) (by rw [c10]; decide) (by decide) ?_
                      refine n_aload_n (i := 0) dX12_count_113 rfl rfl ?_
                      obtain ⟨q16, hq16, h⟩ := yb_bind h
                      refine p_callVi (As := []) (t_X12_hallHeads hq16) cv_X12_583 (sh_176 _ _) rfl rfl (Nat.le_of_ble_eq_true rfl) dX12_count_114 (yb_rok (Nat.le_of_ble_eq_true rfl) (by decide)) ⟨rfl, rfl⟩ ⟨Nat.le_refl _, Nat.le_refl _⟩ (fun k17 => ?_)
                      refine n_aload_n (i := 0) dX12_count_117 rfl rfl ?_
                      refine p_geti fl_X12_272 (sh_176 _ _) rfl dX12_count_118 ?_
                      refine n_icmp_le 136 dX12_count_121 (by decide) (fun c18 => ?_) (fun c18 => ?_)
                      · have h := yb_ifp c18 h
                        refine n_iconst (0 : Int32) dX12_count_136 ic_0 ?_
                        cases h
                        exact n_iret dX12_count_137 rfl rfl (Nat.le_refl _) (Nat.le_refl _) ⟨rfl, rfl⟩
                      · have h := yb_ifn c18 h
                        refine n_aload_n (i := 0) dX12_count_124 rfl rfl ?_
                        obtain ⟨q19, hq19, h⟩ := yb_bind h
                        refine p_callVi (As := []) (t_X12_hallHeads hq19) cv_X12_583 (sh_176 _ _) rfl rfl (Nat.le_of_ble_eq_true rfl) dX12_count_125 (yb_rok (Nat.le_of_ble_eq_true rfl) (by decide)) ⟨rfl, rfl⟩ ⟨Nat.le_refl _, Nat.le_refl _⟩ (fun k20 => ?_)
                        refine n_aload_n (i := 0) dX12_count_128 rfl rfl ?_
                        refine p_geti fl_X12_272 (sh_176 _ _) rfl dX12_count_129 ?_
                        refine n_isub dX12_count_132 ?_
                        refine n_goto 137 dX12_count_133 (by decide) ?_
                        cases h
                        exact n_iret dX12_count_137 rfl rfl (Nat.le_refl _) (Nat.le_refl _) ⟨rfl, rfl⟩
                    · have h := yb_ifn c10 h
                      by_cases c11 : a1 = (10 : Int32)
                      · have h := yb_ifp c11 h
                        refine n_tableIn (off := 137) 138 dX12_count_1 (by rw [c11]; decide) (by rw [c11]; decide) (by rw [c11]; decide) (by decide) ?_
                        refine n_aload_n (i := 0) dX12_count_138 rfl rfl ?_
                        refine p_geti fl_X12_573 (sh_176 _ _) rfl dX12_count_139 ?_
                        cases h
                        exact n_iret dX12_count_142 rfl rfl (Nat.le_refl _) (Nat.le_refl _) ⟨rfl, rfl⟩
                      · have h := yb_ifn c11 h
                        by_cases c12 : a1 = (11 : Int32)
                        · have h := yb_ifp c12 h
                          refine n_tableIn (off := 142) 143 dX12_count_1 (by rw [c12]; decide) (by rw [c12]; decide) (by rw [c12]; decide) (by decide) ?_
                          refine n_aload_n (i := 0) dX12_count_143 rfl rfl ?_
                          refine p_geti fl_X12_580 (sh_176 _ _) rfl dX12_count_144 ?_
                          cases h
                          exact n_iret dX12_count_147 rfl rfl (Nat.le_refl _) (Nat.le_refl _) ⟨rfl, rfl⟩
                        · have h := yb_ifn c12 h
                          by_cases c13 : a1 = (12 : Int32)
                          · have h := yb_ifp c13 h
                            refine n_tableIn (off := 147) 148 dX12_count_1 (by rw [c13]; decide) (by rw [c13]; decide) (by rw [c13]; decide) (by decide) ?_
                            refine n_aload_n (i := 0) dX12_count_148 rfl rfl ?_
                            refine p_geti fl_X12_328 (sh_176 _ _) rfl dX12_count_149 ?_
                            cases h
                            exact n_iret dX12_count_152 rfl rfl (Nat.le_refl _) (Nat.le_refl _) ⟨rfl, rfl⟩
                          · have h := yb_ifn c13 h
                            refine n_tableOut 153 dX12_count_1 (by have z0 := lv_neT c1 (a := 0) (by decide); have z1 := lv_neT c2 (a := 1) (by decide); have z2 := lv_neT c3 (a := 2) (by decide); have z3 := lv_neT c4 (a := 3) (by decide); have z4 := lv_neT c5 (a := 4) (by decide); have z5 := lv_neT c6 (a := 5) (by decide); have z6 := lv_neT c7 (a := 6) (by decide); have z7 := lv_neT c8 (a := 7) (by decide); have z8 := lv_neT c9 (a := 8) (by decide); have z9 := lv_neT c10 (a := 9) (by decide); have z10 := lv_neT c11 (a := 10) (by decide); have z11 := lv_neT c12 (a := 11) (by decide); have z12 := lv_neT c13 (a := 12) (by decide); omega) (by decide) ?_
                            refine n_iconst (-1 : Int32) dX12_count_153 ic_m1 ?_
                            cases h
                            exact n_iret dX12_count_154 rfl rfl (Nat.le_refl _) (Nat.le_refl _) ⟨rfl, rfl⟩
set_option maxHeartbeats 4000000 in
set_option maxRecDepth 20000 in
theorem t_X12_within {G : yb_G} {X : List (FieldType × Nat)} {a0 : Int32} {s : yb_S} {out : Int32} (h : f_X12_within a0 s = some out) : Ct G yX12_within cX12_within 1 (Option.some .int) (yb_rm 1) [.int a0] (yb_mk s X) (yb_qi X s out) := by
  refine Ct.of (own := RX12) (ini := false) (vs := [some (.int a0)]) ⟨rfl, by decide +kernel⟩ (fun h => by cases h) (Nat.le_of_ble_eq_true rfl) rfl ?_
  unfold f_X12_within at h
  refine n_iload_n (i := 0) dX12_within_0 rfl rfl ?_
  refine n_if_ge 8 dX12_within_1 (by decide) (fun c1 => ?_) (fun c1 => ?_)
  · have h := yb_ifp c1 h
    refine n_iload_n (i := 0) dX12_within_8 rfl rfl ?_
    refine n_ldcw (1000000 : Int32) k_X12_531 dX12_within_9 ?_
    refine n_icmp_le 21 dX12_within_12 (by decide) (fun c2 => ?_) (fun c2 => ?_)
    · have h := yb_ifp c2 h
      refine n_iload_n (i := 0) dX12_within_21 rfl rfl ?_
      cases h
      exact n_iret dX12_within_22 rfl rfl (Nat.le_refl _) (Nat.le_refl _) ⟨rfl, rfl⟩
    · have h := yb_ifn c2 h
      refine n_ldcw (1000000 : Int32) k_X12_531 dX12_within_15 ?_
      refine n_goto 22 dX12_within_18 (by decide) ?_
      cases h
      exact n_iret dX12_within_22 rfl rfl (Nat.le_refl _) (Nat.le_refl _) ⟨rfl, rfl⟩
  · have h := yb_ifn c1 h
    refine n_iconst (0 : Int32) dX12_within_4 ic_0 ?_
    refine n_goto 22 dX12_within_5 (by decide) ?_
    cases h
    exact n_iret dX12_within_22 rfl rfl (Nat.le_refl _) (Nat.le_refl _) ⟨rfl, rfl⟩
set_option maxHeartbeats 4000000 in
set_option maxRecDepth 20000 in
theorem tj_X12_day_273 {G : yb_G} {X : List (FieldType × Nat)} {rc110 : (Int32 → yb_S → Option yb_S)} {x1 : Int32} {s : yb_S} {out : yb_S} (hrc110 : ∀ (x1' : Int32) (s' : yb_S), rc110 x1' s' = some out → Rn G RX12 cX12_day 3 none false (yb_rm 8) (yb_qv X out) 0 0 110 [some (.ref (yb_ad G 176)), some (.int x1'), none] [] (yb_mk s' X)) (h : j_X12_day_273 rc110 x1 s = some out) : Rn G RX12 cX12_day 3 none false (yb_rm 8) (yb_qv X out) 0 0 273 [some (.ref (yb_ad G 176)), some (.int x1), none] [] (yb_mk s X) := by
  unfold j_X12_day_273 at h
  refine n_iinc (vs' := [some (.ref (yb_ad G 176)), some (.int (x1 + (1 : Int32))), none]) dX12_day_273 rfl (ii_1 _) (Nat.le_of_ble_eq_true rfl) rfl rfl ?_
  refine n_goto 110 dX12_day_276 (by decide) ?_
  exact p_jump (hrc110 (x1 + (1 : Int32)) s h) (And.intro rfl (And.intro rfl trivial))
set_option maxHeartbeats 4000000 in
set_option maxRecDepth 20000 in
theorem tj_X12_day_163 {G : yb_G} {X : List (FieldType × Nat)} {rc110 : (Int32 → yb_S → Option yb_S)} {x1 : Int32} {y0 : Int32} {y1 : Int32} {y2 : Nat} {s : yb_S} {out : yb_S} (hrc110 : ∀ (x1' : Int32) (s' : yb_S), rc110 x1' s' = some out → Rn G RX12 cX12_day 3 none false (yb_rm 8) (yb_qv X out) 0 0 110 [some (.ref (yb_ad G 176)), some (.int x1'), none] [] (yb_mk s' X)) {riy2 : Int32} (hy2 : yb_ri 367 1 24 riy2 = some y2) (h : j_X12_day_163 rc110 x1 y0 y1 y2 s = some out) : Rn G RX12 cX12_day 3 none false (yb_rm 8) (yb_qv X out) 0 0 163 [some (.ref (yb_ad G 176)), some (.int x1), none] [.int y0, .int y1, .ref (yb_ad G y2)] (yb_mk s X) := by
  unfold j_X12_day_163 at h
  obtain ⟨s12, hs12, h⟩ := yb_bind h
  refine p_iast hs12 (shF_366 hy2 _ _) dX12_day_163 ?_
  refine n_aload_n (i := 0) dX12_day_164 rfl rfl ?_
  refine p_getr fl_X12_208 (sh_176 _ _) rfl (rR_176_67 _ _) dX12_day_165 ?_
  refine n_aload_n (i := 0) dX12_day_168 rfl rfl ?_
  refine p_geti fl_X12_275 (sh_176 _ _) rfl dX12_day_169 ?_
  obtain ⟨r13, hr13, h⟩ := yb_bind h
  refine p_aald hr13 (sh_391 _ _) (by decide) rfl (rF_391 _ _) dX12_day_172 ?_
  refine n_aload_n (i := 0) dX12_day_173 rfl rfl ?_
  refine p_getr fl_X12_66 (sh_176 _ _) rfl (rR_176_22 _ _) dX12_day_174 ?_
  refine n_iload_n (i := 1) dX12_day_177 rfl rfl ?_
  obtain ⟨v14, hv14, h⟩ := yb_bind h
  refine p_iald hv14 (sh_195 _ _) dX12_day_178 ?_
  refine n_dup2 dX12_day_179 rfl rfl ?_
  obtain ⟨v15, hv15, h⟩ := yb_bind h
  refine p_lald hv15 (shF_391 hr13 _ _) dX12_day_180 ?_
  refine n_aload_n (i := 0) dX12_day_181 rfl rfl ?_
  refine p_getr fl_X12_48 (sh_176 _ _) rfl (rR_176_16 _ _) dX12_day_182 ?_
  refine n_iload_n (i := 1) dX12_day_185 rfl rfl ?_
  obtain ⟨v16, hv16, h⟩ := yb_bind h
  refine p_iald hv16 (sh_189 _ _) dX12_day_186 ?_
  refine n_i2l dX12_day_187 ?_
  refine n_ladd dX12_day_188 ?_
  obtain ⟨s17, hs17, h⟩ := yb_bind h
  refine p_last hs17 (shF_391 hr13 _ _) dX12_day_189 ?_
  refine n_aload_n (i := 0) dX12_day_190 rfl rfl ?_
  refine p_getr fl_X12_208 (sh_176 _ _) rfl (rR_176_67 _ _) dX12_day_191 ?_
  refine n_aload_n (i := 0) dX12_day_194 rfl rfl ?_
  refine p_geti fl_X12_275 (sh_176 _ _) rfl dX12_day_195 ?_
  obtain ⟨r18, hr18, h⟩ := yb_bind h
  refine p_aald hr18 (sh_391 _ _) (by decide) rfl (rF_391 _ _) dX12_day_198 ?_
  refine n_iconst (3 : Int32) dX12_day_199 ic_3 ?_
  refine n_dup2 dX12_day_200 rfl rfl ?_
  obtain ⟨v19, hv19, h⟩ := yb_bind h
  refine p_lald hv19 (shF_391 hr18 _ _) dX12_day_201 ?_
  refine n_aload_n (i := 0) dX12_day_202 rfl rfl ?_
  refine p_getr fl_X12_48 (sh_176 _ _) rfl (rR_176_16 _ _) dX12_day_203 ?_
  refine n_iload_n (i := 1) dX12_day_206 rfl rfl ?_
  obtain ⟨v20, hv20, h⟩ := yb_bind h
  refine p_iald hv20 (sh_189 _ _) dX12_day_207 ?_
  refine n_i2l dX12_day_208 ?_
  refine n_ladd dX12_day_209 ?_
  obtain ⟨s21, hs21, h⟩ := yb_bind h
  refine p_last hs21 (shF_391 hr18 _ _) dX12_day_210 ?_
  refine n_aload_n (i := 0) dX12_day_211 rfl rfl ?_
  refine n_iload_n (i := 1) dX12_day_212 rfl rfl ?_
  obtain ⟨q22, hq22, h⟩ := yb_bind h
  refine p_callVi (As := [.int x1]) (t_X12_isHoused hq22) cv_X12_287 (sh_176 _ _) rfl rfl (Nat.le_of_ble_eq_true rfl) dX12_day_213 (yb_rok (Nat.le_of_ble_eq_true rfl) (by decide)) ⟨rfl, rfl⟩ ⟨Nat.le_refl _, Nat.le_refl _⟩ (fun k23 => ?_)
  refine n_if_ne 222 dX12_day_216 (by decide) (fun c24 => ?_) (fun c24 => ?_)
  · have h := yb_ifn c24 h
    refine n_aload_n (i := 0) dX12_day_222 rfl rfl ?_
    refine n_iload_n (i := 1) dX12_day_223 rfl rfl ?_
    refine n_aload_n (i := 0) dX12_day_224 rfl rfl ?_
    refine p_getr fl_X12_69 (sh_176 _ _) rfl (rR_176_23 _ _) dX12_day_225 ?_
    refine n_iload_n (i := 1) dX12_day_228 rfl rfl ?_
    obtain ⟨v25, hv25, h⟩ := yb_bind h
    refine p_iald hv25 (sh_196 _ _) dX12_day_229 ?_
    obtain ⟨q26, hq26, h⟩ := yb_bind h
    refine p_callVv (As := [.int x1, .int v25]) (t_X12_asksOf_ hq26) cv_X12_503 (sh_176 _ _) rfl rfl (Nat.le_of_ble_eq_true rfl) dX12_day_230 (yb_rok (Nat.le_of_ble_eq_true rfl) (by decide)) ⟨rfl, rfl⟩ ⟨Nat.le_refl _, Nat.le_refl _⟩ (fun k27 => ?_)
    refine n_aload_n (i := 0) dX12_day_233 rfl rfl ?_
    refine n_iconst (3 : Int32) dX12_day_234 ic_3 ?_
    obtain ⟨q28, hq28, h⟩ := yb_bind h
    refine p_callVi (As := [.int (3 : Int32)]) (t_X12_tells hq28) cv_X12_482 (sh_176 _ _) rfl rfl (Nat.le_of_ble_eq_true rfl) dX12_day_235 (yb_rok (Nat.le_of_ble_eq_true rfl) (by decide)) ⟨rfl, rfl⟩ ⟨Nat.le_refl _, Nat.le_refl _⟩ (fun k29 => ?_)
    obtain ⟨q30, hq30, h⟩ := yb_bind h
    refine p_callSi (As := [.int q28.1]) (t_X12_within hq30) cs_X12_532 rfl rfl (Nat.le_of_ble_eq_true rfl) dX12_day_238 (yb_rok (Nat.le_of_ble_eq_true rfl) (by decide)) ⟨rfl, rfl⟩ ⟨Nat.le_refl _, Nat.le_refl _⟩ (fun k31 => ?_)
    refine n_istore_n (i := 2) (vs' := [some (.ref (yb_ad G 176)), some (.int x1), some (.int q30)]) dX12_day_241 rfl (Nat.le_of_ble_eq_true rfl) rfl rfl ?_
    refine n_aload_n (i := 0) dX12_day_242 rfl rfl ?_
    refine p_getr fl_X12_22 (sh_176 _ _) rfl (rR_176_4 _ _) dX12_day_243 ?_
    refine n_aload_n (i := 0) dX12_day_246 rfl rfl ?_
    refine n_iload_n (i := 1) dX12_day_247 rfl rfl ?_
    obtain ⟨q32, hq32, h⟩ := yb_bind h
    refine p_callVi (As := [.int x1]) (t_X12_townFor hq32) cv_X12_458 (sh_176 _ _) rfl rfl (Nat.le_of_ble_eq_true rfl) dX12_day_248 (yb_rok (Nat.le_of_ble_eq_true rfl) (by decide)) ⟨rfl, rfl⟩ ⟨Nat.le_refl _, Nat.le_refl _⟩ (fun k33 => ?_)
    refine n_dup2 dX12_day_251 rfl rfl ?_
    obtain ⟨v34, hv34, h⟩ := yb_bind h
    refine p_lald hv34 (sh_181 _ _) dX12_day_252 ?_
    refine n_iload_n (i := 2) dX12_day_253 rfl rfl ?_
    refine n_i2l dX12_day_254 ?_
    refine n_ladd dX12_day_255 ?_
    obtain ⟨s35, hs35, h⟩ := yb_bind h
    refine p_last hs35 (sh_181 _ _) dX12_day_256 ?_
    refine n_aload_n (i := 0) dX12_day_257 rfl rfl ?_
    refine p_getr fl_X12_208 (sh_176 _ _) rfl (rR_176_67 _ _) dX12_day_258 ?_
    refine n_aload_n (i := 0) dX12_day_261 rfl rfl ?_
    refine p_geti fl_X12_275 (sh_176 _ _) rfl dX12_day_262 ?_
    obtain ⟨r36, hr36, h⟩ := yb_bind h
    refine p_aald hr36 (sh_391 _ _) (by decide) rfl (rF_391 _ _) dX12_day_265 ?_
    refine n_iconst (4 : Int32) dX12_day_266 ic_4 ?_
    refine n_dup2 dX12_day_267 rfl rfl ?_
    obtain ⟨v37, hv37, h⟩ := yb_bind h
    refine p_lald hv37 (shF_391 hr36 _ _) dX12_day_268 ?_
    refine n_iload_n (i := 2) dX12_day_269 rfl rfl ?_
    refine n_i2l dX12_day_270 ?_
    refine n_ladd dX12_day_271 ?_
    obtain ⟨s38, hs38, h⟩ := yb_bind h
    refine p_last hs38 (shF_391 hr36 _ _) dX12_day_272 ?_
    exact p_jump (tj_X12_day_273 hrc110 h) (And.intro rfl (And.intro rfl trivial))
  · have h := yb_ifp c24 h
    refine n_goto 273 dX12_day_219 (by decide) ?_
    exact p_jump (tj_X12_day_273 hrc110 h) (And.intro rfl (And.intro rfl trivial))
set_option maxHeartbeats 4000000 in
set_option maxRecDepth 20000 in
theorem t_l_X12_day_110 {G : yb_G} {X : List (FieldType × Nat)} {out : yb_S} : ∀ (k0 : Nat) (x1 : Int32) (s : yb_S), l_X12_day_110 k0 x1 s = some out → Rn G RX12 cX12_day 3 none false (yb_rm 8) (yb_qv X out) 0 0 110 [some (.ref (yb_ad G 176)), some (.int x1), none] [] (yb_mk s X) := by
  intro k0
  induction k0 with
  | zero => intro x1 s h; cases h
  | succ k0 ih =>
    intro x1 s h
    have h : f_X12_day_110 (fun x1 s => l_X12_day_110 k0 x1 s) x1 s = some out := h
    have hrc110 := ih
    unfold f_X12_day_110 at h
    refine n_iload_n (i := 1) dX12_day_110 rfl rfl ?_
    refine n_aload_n (i := 0) dX12_day_111 rfl rfl ?_
    refine p_geti fl_X12_254 (sh_176 _ _) rfl dX12_day_112 ?_
    refine n_icmp_ge 279 dX12_day_115 (by decide) (fun c4 => ?_) (fun c4 => ?_)
    · have h := yb_ifp c4 h
      refine n_aload_n (i := 0) dX12_day_279 rfl rfl ?_
      refine n_dup dX12_day_280 rfl ?_
      refine p_geti fl_X12_275 (sh_176 _ _) rfl dX12_day_281 ?_
      refine n_iconst (1 : Int32) dX12_day_284 ic_1 ?_
      refine n_iadd dX12_day_285 ?_
      obtain ⟨s5, hs5, h⟩ := yb_bind h
      refine p_puti hs5 fp_X12_275 (sh_176 _ _) rfl rfl rfl dX12_day_286 ?_
      cases h
      exact n_vret dX12_day_289 rfl (Nat.le_refl _) (Nat.le_refl _) ⟨rfl, rfl⟩
    · have h := yb_ifn c4 h
      refine n_aload_n (i := 0) dX12_day_118 rfl rfl ?_
      refine p_getr fl_X12_203 (sh_176 _ _) rfl (rR_176_66 _ _) dX12_day_119 ?_
      refine n_iload_n (i := 1) dX12_day_122 rfl rfl ?_
      obtain ⟨r6, hr6, h⟩ := yb_bind h
      refine p_aald hr6 (sh_366 _ _) (by decide) rfl (rF_366 _ _) dX12_day_123 ?_
      refine n_aload_n (i := 0) dX12_day_124 rfl rfl ?_
      refine p_geti fl_X12_275 (sh_176 _ _) rfl dX12_day_125 ?_
      refine n_aload_n (i := 0) dX12_day_128 rfl rfl ?_
      refine p_getr fl_X12_66 (sh_176 _ _) rfl (rR_176_22 _ _) dX12_day_129 ?_
      refine n_iload_n (i := 1) dX12_day_132 rfl rfl ?_
      obtain ⟨v7, hv7, h⟩ := yb_bind h
      refine p_iald hv7 (sh_195 _ _) dX12_day_133 ?_
      refine n_if_ne 142 dX12_day_134 (by decide) (fun c8 => ?_) (fun c8 => ?_)
      · have h := yb_ifn c8 h
        refine n_aload_n (i := 0) dX12_day_142 rfl rfl ?_
        refine p_getr fl_X12_66 (sh_176 _ _) rfl (rR_176_22 _ _) dX12_day_143 ?_
        refine n_iload_n (i := 1) dX12_day_146 rfl rfl ?_
        obtain ⟨v9, hv9, h⟩ := yb_bind h
        refine p_iald hv9 (sh_195 _ _) dX12_day_147 ?_
        refine n_iconst (2 : Int32) dX12_day_148 ic_2 ?_
        refine n_icmp_ne 157 dX12_day_149 (by decide) (fun c10 => ?_) (fun c10 => ?_)
        · have h := yb_ifn c10 h
          refine n_aload_n (i := 0) dX12_day_157 rfl rfl ?_
          refine p_getr fl_X12_69 (sh_176 _ _) rfl (rR_176_23 _ _) dX12_day_158 ?_
          refine n_iload_n (i := 1) dX12_day_161 rfl rfl ?_
          obtain ⟨v11, hv11, h⟩ := yb_bind h
          refine p_iald hv11 (sh_196 _ _) dX12_day_162 ?_
          exact p_jump (tj_X12_day_163 hrc110 hr6 h) (And.intro rfl (And.intro rfl trivial))
        · have h := yb_ifp c10 h
          refine n_bipush (101 : Int32) dX12_day_152 bp_101 ?_
          refine n_goto 163 dX12_day_154 (by decide) ?_
          exact p_jump (tj_X12_day_163 hrc110 hr6 h) (And.intro rfl (And.intro rfl trivial))
      · have h := yb_ifp c8 h
        refine n_bipush (100 : Int32) dX12_day_137 bp_100 ?_
        refine n_goto 163 dX12_day_139 (by decide) ?_
        exact p_jump (tj_X12_day_163 hrc110 hr6 h) (And.intro rfl (And.intro rfl trivial))
set_option maxHeartbeats 4000000 in
set_option maxRecDepth 20000 in
theorem tl_X12_day_110 {G : yb_G} {X : List (FieldType × Nat)} {out : yb_S} {x1 : Int32} {s : yb_S} (h : l_X12_day_110 yb_N x1 s = some out) : Rn G RX12 cX12_day 3 none false (yb_rm 8) (yb_qv X out) 0 0 110 [some (.ref (yb_ad G 176)), some (.int x1), none] [] (yb_mk s X) := t_l_X12_day_110 _ _ _ h
set_option maxHeartbeats 4000000 in
set_option maxRecDepth 20000 in
theorem t_l_X12_day_85 {G : yb_G} {X : List (FieldType × Nat)} {out : yb_S} : ∀ (k0 : Nat) (x1 : Int32) (s : yb_S), l_X12_day_85 k0 x1 s = some out → Rn G RX12 cX12_day 3 none false (yb_rm 8) (yb_qv X out) 0 0 85 [some (.ref (yb_ad G 176)), some (.int x1), none] [] (yb_mk s X) := by
  intro k0
  induction k0 with
  | zero => intro x1 s h; cases h
  | succ k0 ih =>
    intro x1 s h
    have h : f_X12_day_85 (fun x1 s => l_X12_day_85 k0 x1 s) x1 s = some out := h
    have hrc85 := ih
    unfold f_X12_day_85 at h
    refine n_iload_n (i := 1) dX12_day_85 rfl rfl ?_
    refine n_iconst (5 : Int32) dX12_day_86 ic_5 ?_
    refine n_icmp_ge 108 dX12_day_87 (by decide) (fun c3 => ?_) (fun c3 => ?_)
    · have h := yb_ifp c3 h
      refine n_iconst (0 : Int32) dX12_day_108 ic_0 ?_
      refine n_istore_n (i := 1) (vs' := [some (.ref (yb_ad G 176)), some (.int (0 : Int32)), none]) dX12_day_109 rfl (Nat.le_of_ble_eq_true rfl) rfl rfl ?_
      exact p_jump (tl_X12_day_110 h) (And.intro rfl (And.intro rfl trivial))
    · have h := yb_ifn c3 h
      refine n_aload_n (i := 0) dX12_day_90 rfl rfl ?_
      refine p_getr fl_X12_208 (sh_176 _ _) rfl (rR_176_67 _ _) dX12_day_91 ?_
      refine n_aload_n (i := 0) dX12_day_94 rfl rfl ?_
      refine p_geti fl_X12_275 (sh_176 _ _) rfl dX12_day_95 ?_
      obtain ⟨r39, hr39, h⟩ := yb_bind h
      refine p_aald hr39 (sh_391 _ _) (by decide) rfl (rF_391 _ _) dX12_day_98 ?_
      refine n_iload_n (i := 1) dX12_day_99 rfl rfl ?_
      refine n_lconst (0 : Int64) dX12_day_100 rfl ?_
      obtain ⟨s40, hs40, h⟩ := yb_bind h
      refine p_last hs40 (shF_391 hr39 _ _) dX12_day_101 ?_
      refine n_iinc (vs' := [some (.ref (yb_ad G 176)), some (.int (x1 + (1 : Int32))), none]) dX12_day_102 rfl (ii_1 _) (Nat.le_of_ble_eq_true rfl) rfl rfl ?_
      refine n_goto 85 dX12_day_105 (by decide) ?_
      exact p_jump (hrc85 (x1 + (1 : Int32)) s40 h) (And.intro rfl (And.intro rfl trivial))
set_option maxHeartbeats 4000000 in
set_option maxRecDepth 20000 in
theorem tl_X12_day_85 {G : yb_G} {X : List (FieldType × Nat)} {out : yb_S} {x1 : Int32} {s : yb_S} (h : l_X12_day_85 yb_N x1 s = some out) : Rn G RX12 cX12_day 3 none false (yb_rm 8) (yb_qv X out) 0 0 85 [some (.ref (yb_ad G 176)), some (.int x1), none] [] (yb_mk s X) := t_l_X12_day_85 _ _ _ h
set_option maxHeartbeats 4000000 in
set_option maxRecDepth 20000 in
theorem tj_X12_day_77 {G : yb_G} {X : List (FieldType × Nat)} {rc50 : (Int32 → yb_S → Option yb_S)} {x1 : Int32} {s : yb_S} {out : yb_S} (hrc50 : ∀ (x1' : Int32) (s' : yb_S), rc50 x1' s' = some out → Rn G RX12 cX12_day 3 none false (yb_rm 8) (yb_qv X out) 0 0 50 [some (.ref (yb_ad G 176)), some (.int x1'), none] [] (yb_mk s' X)) (h : j_X12_day_77 rc50 x1 s = some out) : Rn G RX12 cX12_day 3 none false (yb_rm 8) (yb_qv X out) 0 0 77 [some (.ref (yb_ad G 176)), some (.int x1), none] [] (yb_mk s X) := by
  unfold j_X12_day_77 at h
  refine n_iinc (vs' := [some (.ref (yb_ad G 176)), some (.int (x1 + (1 : Int32))), none]) dX12_day_77 rfl (ii_1 _) (Nat.le_of_ble_eq_true rfl) rfl rfl ?_
  refine n_goto 50 dX12_day_80 (by decide) ?_
  exact p_jump (hrc50 (x1 + (1 : Int32)) s h) (And.intro rfl (And.intro rfl trivial))
set_option maxHeartbeats 4000000 in
set_option maxRecDepth 20000 in
theorem t_l_X12_day_50 {G : yb_G} {X : List (FieldType × Nat)} {out : yb_S} : ∀ (k0 : Nat) (x1 : Int32) (s : yb_S), l_X12_day_50 k0 x1 s = some out → Rn G RX12 cX12_day 3 none false (yb_rm 8) (yb_qv X out) 0 0 50 [some (.ref (yb_ad G 176)), some (.int x1), none] [] (yb_mk s X) := by
  intro k0
  induction k0 with
  | zero => intro x1 s h; cases h
  | succ k0 ih =>
    intro x1 s h
    have h : f_X12_day_50 (fun x1 s => l_X12_day_50 k0 x1 s) x1 s = some out := h
    have hrc50 := ih
    unfold f_X12_day_50 at h
    refine n_iload_n (i := 1) dX12_day_50 rfl rfl ?_
    refine n_aload_n (i := 0) dX12_day_51 rfl rfl ?_
    refine p_geti fl_X12_254 (sh_176 _ _) rfl dX12_day_52 ?_
    refine n_icmp_ge 83 dX12_day_55 (by decide) (fun c2 => ?_) (fun c2 => ?_)
    · have h := yb_ifp c2 h
      refine n_iconst (0 : Int32) dX12_day_83 ic_0 ?_
      refine n_istore_n (i := 1) (vs' := [some (.ref (yb_ad G 176)), some (.int (0 : Int32)), none]) dX12_day_84 rfl (Nat.le_of_ble_eq_true rfl) rfl rfl ?_
      exact p_jump (tl_X12_day_85 h) (And.intro rfl (And.intro rfl trivial))
    · have h := yb_ifn c2 h
      refine n_aload_n (i := 0) dX12_day_58 rfl rfl ?_
      refine p_getr fl_X12_66 (sh_176 _ _) rfl (rR_176_22 _ _) dX12_day_59 ?_
      refine n_iload_n (i := 1) dX12_day_62 rfl rfl ?_
      obtain ⟨v41, hv41, h⟩ := yb_bind h
      refine p_iald hv41 (sh_195 _ _) dX12_day_63 ?_
      refine n_if_ne 77 dX12_day_64 (by decide) (fun c42 => ?_) (fun c42 => ?_)
      · have h := yb_ifn c42 h
        exact p_jump (tj_X12_day_77 hrc50 h) (And.intro rfl (And.intro rfl trivial))
      · have h := yb_ifp c42 h
        refine n_aload_n (i := 0) dX12_day_67 rfl rfl ?_
        refine p_getr fl_X12_72 (sh_176 _ _) rfl (rR_176_24 _ _) dX12_day_68 ?_
        refine n_iload_n (i := 1) dX12_day_71 rfl rfl ?_
        refine n_dup2 dX12_day_72 rfl rfl ?_
        obtain ⟨v43, hv43, h⟩ := yb_bind h
        refine p_iald hv43 (sh_197 _ _) dX12_day_73 ?_
        refine n_iconst (1 : Int32) dX12_day_74 ic_1 ?_
        refine n_iadd dX12_day_75 ?_
        obtain ⟨s44, hs44, h⟩ := yb_bind h
        refine p_iast hs44 (sh_197 _ _) dX12_day_76 ?_
        exact p_jump (tj_X12_day_77 hrc50 h) (And.intro rfl (And.intro rfl trivial))
set_option maxHeartbeats 4000000 in
set_option maxRecDepth 20000 in
theorem tl_X12_day_50 {G : yb_G} {X : List (FieldType × Nat)} {out : yb_S} {x1 : Int32} {s : yb_S} (h : l_X12_day_50 yb_N x1 s = some out) : Rn G RX12 cX12_day 3 none false (yb_rm 8) (yb_qv X out) 0 0 50 [some (.ref (yb_ad G 176)), some (.int x1), none] [] (yb_mk s X) := t_l_X12_day_50 _ _ _ h
set_option maxHeartbeats 4000000 in
set_option maxRecDepth 20000 in
theorem tj_X12_day_42 {G : yb_G} {X : List (FieldType × Nat)} {rc2 : (Int32 → yb_S → Option yb_S)} {x1 : Int32} {s : yb_S} {out : yb_S} (hrc2 : ∀ (x1' : Int32) (s' : yb_S), rc2 x1' s' = some out → Rn G RX12 cX12_day 3 none false (yb_rm 8) (yb_qv X out) 0 0 2 [some (.ref (yb_ad G 176)), some (.int x1'), none] [] (yb_mk s' X)) (h : j_X12_day_42 rc2 x1 s = some out) : Rn G RX12 cX12_day 3 none false (yb_rm 8) (yb_qv X out) 0 0 42 [some (.ref (yb_ad G 176)), some (.int x1), none] [] (yb_mk s X) := by
  unfold j_X12_day_42 at h
  refine n_iinc (vs' := [some (.ref (yb_ad G 176)), some (.int (x1 + (1 : Int32))), none]) dX12_day_42 rfl (ii_1 _) (Nat.le_of_ble_eq_true rfl) rfl rfl ?_
  refine n_goto 2 dX12_day_45 (by decide) ?_
  exact p_jump (hrc2 (x1 + (1 : Int32)) s h) (And.intro rfl (And.intro rfl trivial))
set_option maxHeartbeats 4000000 in
set_option maxRecDepth 20000 in
theorem t_l_X12_day_2 {G : yb_G} {X : List (FieldType × Nat)} {out : yb_S} : ∀ (k0 : Nat) (x1 : Int32) (s : yb_S), l_X12_day_2 k0 x1 s = some out → Rn G RX12 cX12_day 3 none false (yb_rm 8) (yb_qv X out) 0 0 2 [some (.ref (yb_ad G 176)), some (.int x1), none] [] (yb_mk s X) := by
  intro k0
  induction k0 with
  | zero => intro x1 s h; cases h
  | succ k0 ih =>
    intro x1 s h
    have h : f_X12_day_2 (fun x1 s => l_X12_day_2 k0 x1 s) x1 s = some out := h
    have hrc2 := ih
    unfold f_X12_day_2 at h
    refine n_iload_n (i := 1) dX12_day_2 rfl rfl ?_
    refine n_aload_n (i := 0) dX12_day_3 rfl rfl ?_
    refine p_geti fl_X12_254 (sh_176 _ _) rfl dX12_day_4 ?_
    refine n_icmp_ge 48 dX12_day_7 (by decide) (fun c1 => ?_) (fun c1 => ?_)
    · have h := yb_ifp c1 h
      refine n_iconst (0 : Int32) dX12_day_48 ic_0 ?_
      refine n_istore_n (i := 1) (vs' := [some (.ref (yb_ad G 176)), some (.int (0 : Int32)), none]) dX12_day_49 rfl (Nat.le_of_ble_eq_true rfl) rfl rfl ?_
      exact p_jump (tl_X12_day_50 h) (And.intro rfl (And.intro rfl trivial))
    · have h := yb_ifn c1 h
      refine n_aload_n (i := 0) dX12_day_10 rfl rfl ?_
      refine n_iload_n (i := 1) dX12_day_11 rfl rfl ?_
      obtain ⟨q45, hq45, h⟩ := yb_bind h
      refine p_callVi (As := [.int x1]) (t_X12_isHoused hq45) cv_X12_287 (sh_176 _ _) rfl rfl (Nat.le_of_ble_eq_true rfl) dX12_day_12 (yb_rok (Nat.le_of_ble_eq_true rfl) (by decide)) ⟨rfl, rfl⟩ ⟨Nat.le_refl _, Nat.le_refl _⟩ (fun k46 => ?_)
      refine n_if_eq 42 dX12_day_15 (by decide) (fun c47 => ?_) (fun c47 => ?_)
      · have h := yb_ifp c47 h
        exact p_jump (tj_X12_day_42 hrc2 h) (And.intro rfl (And.intro rfl trivial))
      · have h := yb_ifn c47 h
        refine n_aload_n (i := 0) dX12_day_18 rfl rfl ?_
        refine p_getr fl_X12_45 (sh_176 _ _) rfl (rR_176_14 _ _) dX12_day_19 ?_
        refine n_aload_n (i := 0) dX12_day_22 rfl rfl ?_
        refine p_getr fl_X12_69 (sh_176 _ _) rfl (rR_176_23 _ _) dX12_day_23 ?_
        refine n_iload_n (i := 1) dX12_day_26 rfl rfl ?_
        obtain ⟨v48, hv48, h⟩ := yb_bind h
        refine p_iald hv48 (sh_196 _ _) dX12_day_27 ?_
        obtain ⟨v49, hv49, h⟩ := yb_bind h
        refine p_iald hv49 (sh_188 _ _) dX12_day_28 ?_
        refine n_aload_n (i := 0) dX12_day_29 rfl rfl ?_
        refine p_geti fl_X12_275 (sh_176 _ _) rfl dX12_day_30 ?_
        refine n_icmp_ne 42 dX12_day_33 (by decide) (fun c50 => ?_) (fun c50 => ?_)
        · have h := yb_ifn c50 h
          exact p_jump (tj_X12_day_42 hrc2 h) (And.intro rfl (And.intro rfl trivial))
        · have h := yb_ifp c50 h
          refine n_aload_n (i := 0) dX12_day_36 rfl rfl ?_
          refine n_iload_n (i := 1) dX12_day_37 rfl rfl ?_
          refine n_iconst (-1 : Int32) dX12_day_38 ic_m1 ?_
          obtain ⟨q51, hq51, h⟩ := yb_bind h
          refine p_callVv (As := [.int x1, .int (-1 : Int32)]) (t_X12_houses hq51) cv_X12_521 (sh_176 _ _) rfl rfl (Nat.le_of_ble_eq_true rfl) dX12_day_39 (yb_rok (Nat.le_of_ble_eq_true rfl) (by decide)) ⟨rfl, rfl⟩ ⟨Nat.le_refl _, Nat.le_refl _⟩ (fun k52 => ?_)
          exact p_jump (tj_X12_day_42 hrc2 h) (And.intro rfl (And.intro rfl trivial))
set_option maxHeartbeats 4000000 in
set_option maxRecDepth 20000 in
theorem tl_X12_day_2 {G : yb_G} {X : List (FieldType × Nat)} {out : yb_S} {x1 : Int32} {s : yb_S} (h : l_X12_day_2 yb_N x1 s = some out) : Rn G RX12 cX12_day 3 none false (yb_rm 8) (yb_qv X out) 0 0 2 [some (.ref (yb_ad G 176)), some (.int x1), none] [] (yb_mk s X) := t_l_X12_day_2 _ _ _ h
set_option maxHeartbeats 4000000 in
set_option maxRecDepth 20000 in
theorem t_X12_day {G : yb_G} {X : List (FieldType × Nat)} {s : yb_S} {out : yb_S} (h : f_X12_day s = some out) : Ct G yX12_day cX12_day 3 none (yb_rm 8) [.ref (yb_ad G 176)] (yb_mk s X) (yb_qv X out) := by
  refine Ct.of (own := RX12) (ini := false) (vs := [some (.ref (yb_ad G 176)), none, none]) ⟨rfl, by decide +kernel⟩ (fun h => by cases h) (Nat.le_of_ble_eq_true rfl) rfl ?_
  unfold f_X12_day at h
  refine n_iconst (0 : Int32) dX12_day_0 ic_0 ?_
  refine n_istore_n (i := 1) (vs' := [some (.ref (yb_ad G 176)), some (.int (0 : Int32)), none]) dX12_day_1 rfl (Nat.le_of_ble_eq_true rfl) rfl rfl ?_
  exact p_jump (tl_X12_day_2 h) (And.intro rfl (And.intro rfl trivial))
set_option maxHeartbeats 4000000 in
set_option maxRecDepth 20000 in
theorem t_X12_end {G : yb_G} {X : List (FieldType × Nat)} {a1 : Int32} {s : yb_S} {out : (Int32 × yb_S)} (h : f_X12_end a1 s = some out) : Ct G yX12_end cX12_end 2 (Option.some .boolean) (yb_rm 2) [.ref (yb_ad G 176), .int a1] (yb_mk s X) (yb_qi X out.2 out.1) := by
  refine Ct.of (own := RX12) (ini := false) (vs := [some (.ref (yb_ad G 176)), some (.int a1)]) ⟨rfl, by decide +kernel⟩ (fun h => by cases h) (Nat.le_of_ble_eq_true rfl) rfl ?_
  unfold f_X12_end at h
  refine n_iload_n (i := 1) dX12_end_0 rfl rfl ?_
  refine n_i2l dX12_end_1 ?_
  refine n_lconst (0 : Int64) dX12_end_2 rfl ?_
  refine n_aload_n (i := 0) dX12_end_3 rfl rfl ?_
  refine p_geti fl_X12_343 (sh_176 _ _) rfl dX12_end_4 ?_
  refine n_i2l dX12_end_7 ?_
  obtain ⟨q1, hq1, h⟩ := yb_bind h
  refine p_callSi (As := [.long (a1.toInt64), .long (0 : Int64), .long ((s.1 176 44).toInt64)]) (t_X12_in hq1) cs_X12_247 rfl rfl (Nat.le_of_ble_eq_true rfl) dX12_end_8 (yb_rok (Nat.le_of_ble_eq_true rfl) (by decide)) ⟨rfl, rfl⟩ ⟨Nat.le_refl _, Nat.le_refl _⟩ (fun k2 => ?_)
  refine n_if_ne 16 dX12_end_11 (by decide) (fun c3 => ?_) (fun c3 => ?_)
  · have h := yb_ifn c3 h
    refine n_aload_n (i := 0) dX12_end_16 rfl rfl ?_
    refine n_iload_n (i := 1) dX12_end_17 rfl rfl ?_
    obtain ⟨s4, hs4, h⟩ := yb_bind h
    refine p_puti hs4 fp_X12_343 (sh_176 _ _) rfl rfl rfl dX12_end_18 ?_
    refine n_iconst (1 : Int32) dX12_end_21 ic_1 ?_
    cases h
    exact n_iret dX12_end_22 rfl (by decide) (Nat.le_refl _) (Nat.le_refl _) ⟨rfl, rfl⟩
  · have h := yb_ifp c3 h
    refine n_iconst (0 : Int32) dX12_end_14 ic_0 ?_
    cases h
    exact n_iret dX12_end_15 rfl (by decide) (Nat.le_refl _) (Nat.le_refl _) ⟨rfl, rfl⟩
set_option maxHeartbeats 4000000 in
set_option maxRecDepth 20000 in
theorem t_X12_ended {G : yb_G} {X : List (FieldType × Nat)} {a1 : Int32} {a2 : Int32} {s : yb_S} {out : Int32} (h : f_X12_ended a1 a2 s = some out) : Ct G yX12_ended cX12_ended 3 (Option.some .int) (yb_rm 3) [.ref (yb_ad G 176), .int a1, .int a2] (yb_mk s X) (yb_qi X s out) := by
  refine Ct.of (own := RX12) (ini := false) (vs := [some (.ref (yb_ad G 176)), some (.int a1), some (.int a2)]) ⟨rfl, by decide +kernel⟩ (fun h => by cases h) (Nat.le_of_ble_eq_true rfl) rfl ?_
  unfold f_X12_ended at h
  refine n_aload_n (i := 0) dX12_ended_0 rfl rfl ?_
  refine n_iload_n (i := 1) dX12_ended_1 rfl rfl ?_
  obtain ⟨q1, hq1, h⟩ := yb_bind h
  refine p_callVi (As := [.int a1]) (t_X12_hasEnded hq1) cv_X12_539 (sh_176 _ _) rfl rfl (Nat.le_of_ble_eq_true rfl) dX12_ended_2 (yb_rok (Nat.le_of_ble_eq_true rfl) (by decide)) ⟨rfl, rfl⟩ ⟨Nat.le_refl _, Nat.le_refl _⟩ (fun k2 => ?_)
  refine n_if_eq 32 dX12_ended_5 (by decide) (fun c3 => ?_) (fun c3 => ?_)
  · have h := yb_ifp c3 h
    refine n_iconst (-1 : Int32) dX12_ended_32 ic_m1 ?_
    cases h
    exact n_iret dX12_ended_33 rfl rfl (Nat.le_refl _) (Nat.le_refl _) ⟨rfl, rfl⟩
  · have h := yb_ifn c3 h
    refine n_iload_n (i := 2) dX12_ended_8 rfl rfl ?_
    refine n_i2l dX12_ended_9 ?_
    refine n_lconst (0 : Int64) dX12_ended_10 rfl ?_
    refine n_ldc2 (4 : Int64) k_X12_590 dX12_ended_11 ?_
    obtain ⟨q4, hq4, h⟩ := yb_bind h
    refine p_callSi (As := [.long (a2.toInt64), .long (0 : Int64), .long (4 : Int64)]) (t_X12_in hq4) cs_X12_247 rfl rfl (Nat.le_of_ble_eq_true rfl) dX12_ended_14 (yb_rok (Nat.le_of_ble_eq_true rfl) (by decide)) ⟨rfl, rfl⟩ ⟨Nat.le_refl _, Nat.le_refl _⟩ (fun k5 => ?_)
    refine n_if_eq 32 dX12_ended_17 (by decide) (fun c6 => ?_) (fun c6 => ?_)
    · have h := yb_ifp c6 h
      refine n_iconst (-1 : Int32) dX12_ended_32 ic_m1 ?_
      cases h
      exact n_iret dX12_ended_33 rfl rfl (Nat.le_refl _) (Nat.le_refl _) ⟨rfl, rfl⟩
    · have h := yb_ifn c6 h
      refine n_aload_n (i := 0) dX12_ended_20 rfl rfl ?_
      refine p_getr fl_X12_208 (sh_176 _ _) rfl (rR_176_67 _ _) dX12_ended_21 ?_
      refine n_iload_n (i := 1) dX12_ended_24 rfl rfl ?_
      obtain ⟨r7, hr7, h⟩ := yb_bind h
      refine p_aald hr7 (sh_391 _ _) (by decide) rfl (rF_391 _ _) dX12_ended_25 ?_
      refine n_iload_n (i := 2) dX12_ended_26 rfl rfl ?_
      obtain ⟨v8, hv8, h⟩ := yb_bind h
      refine p_lald hv8 (shF_391 hr7 _ _) dX12_ended_27 ?_
      refine n_l2i dX12_ended_28 ?_
      refine n_goto 33 dX12_ended_29 (by decide) ?_
      cases h
      exact n_iret dX12_ended_33 rfl rfl (Nat.le_refl _) (Nat.le_refl _) ⟨rfl, rfl⟩
set_option maxHeartbeats 4000000 in
set_option maxRecDepth 20000 in
theorem tj_X12_ends_53 {G : yb_G} {X : List (FieldType × Nat)} {rc23 : (Int32 → Int32 → yb_S → Option (Int32 × yb_S))} {x1 : Int32} {x2 : Int32} {x3 : Int32} {s : yb_S} {out : (Int32 × yb_S)} (hrc23 : ∀ (x2' : Int32) (x3' : Int32) (s' : yb_S), rc23 x2' x3' s' = some out → Rn G RX12 cX12_ends 4 (Option.some .int) false (yb_rm 9) (yb_qi X out.2 out.1) 0 0 23 [some (.ref (yb_ad G 176)), some (.int x1), some (.int x2'), some (.int x3')] [] (yb_mk s' X)) (h : j_X12_ends_53 rc23 x1 x2 x3 s = some out) : Rn G RX12 cX12_ends 4 (Option.some .int) false (yb_rm 9) (yb_qi X out.2 out.1) 0 0 53 [some (.ref (yb_ad G 176)), some (.int x1), some (.int x2), some (.int x3)] [] (yb_mk s X) := by
  unfold j_X12_ends_53 at h
  refine n_iinc (vs' := [some (.ref (yb_ad G 176)), some (.int x1), some (.int x2), some (.int (x3 + (1 : Int32)))]) dX12_ends_53 rfl (ii_1 _) (Nat.le_of_ble_eq_true rfl) rfl rfl ?_
  refine n_goto 23 dX12_ends_56 (by decide) ?_
  exact p_jump (hrc23 x2 (x3 + (1 : Int32)) s h) (And.intro rfl (And.intro rfl (And.intro rfl (And.intro rfl trivial))))
set_option maxHeartbeats 4000000 in
set_option maxRecDepth 20000 in
theorem tj_X12_ends_51 {G : yb_G} {X : List (FieldType × Nat)} {rc23 : (Int32 → Int32 → yb_S → Option (Int32 × yb_S))} {x1 : Int32} {x3 : Int32} {s : yb_S} {out : (Int32 × yb_S)} (hrc23 : ∀ (x2' : Int32) (x3' : Int32) (s' : yb_S), rc23 x2' x3' s' = some out → Rn G RX12 cX12_ends 4 (Option.some .int) false (yb_rm 9) (yb_qi X out.2 out.1) 0 0 23 [some (.ref (yb_ad G 176)), some (.int x1), some (.int x2'), some (.int x3')] [] (yb_mk s' X)) (h : j_X12_ends_51 rc23 x1 x3 s = some out) : Rn G RX12 cX12_ends 4 (Option.some .int) false (yb_rm 9) (yb_qi X out.2 out.1) 0 0 51 [some (.ref (yb_ad G 176)), some (.int x1), none, some (.int x3)] [] (yb_mk s X) := by
  unfold j_X12_ends_51 at h
  refine n_iload_n (i := 3) dX12_ends_51 rfl rfl ?_
  refine n_istore_n (i := 2) (vs' := [some (.ref (yb_ad G 176)), some (.int x1), some (.int x3), some (.int x3)]) dX12_ends_52 rfl (Nat.le_of_ble_eq_true rfl) rfl rfl ?_
  exact p_jump (tj_X12_ends_53 hrc23 h) (And.intro rfl (And.intro rfl (And.intro rfl (And.intro rfl trivial))))
set_option maxHeartbeats 4000000 in
set_option maxRecDepth 20000 in
theorem t_l_X12_ends_23 {G : yb_G} {X : List (FieldType × Nat)} {x1 : Int32} {out : (Int32 × yb_S)} : ∀ (k0 : Nat) (x2 : Int32) (x3 : Int32) (s : yb_S), l_X12_ends_23 x1 k0 x2 x3 s = some out → Rn G RX12 cX12_ends 4 (Option.some .int) false (yb_rm 9) (yb_qi X out.2 out.1) 0 0 23 [some (.ref (yb_ad G 176)), some (.int x1), some (.int x2), some (.int x3)] [] (yb_mk s X) := by
  intro k0
  induction k0 with
  | zero => intro x2 x3 s h; cases h
  | succ k0 ih =>
    intro x2 x3 s h
    have h : f_X12_ends_23 (fun x2 x3 s => l_X12_ends_23 x1 k0 x2 x3 s) x1 x2 x3 s = some out := h
    have hrc23 := ih
    unfold f_X12_ends_23 at h
    refine n_iload_n (i := 3) dX12_ends_23 rfl rfl ?_
    refine n_aload_n (i := 0) dX12_ends_24 rfl rfl ?_
    refine p_geti fl_X12_251 (sh_176 _ _) rfl dX12_ends_25 ?_
    refine n_icmp_ge 59 dX12_ends_28 (by decide) (fun c6 => ?_) (fun c6 => ?_)
    · have h := yb_ifp c6 h
      refine n_iload_n (i := 2) dX12_ends_59 rfl rfl ?_
      cases h
      exact n_iret dX12_ends_60 rfl rfl (Nat.le_refl _) (Nat.le_refl _) ⟨rfl, rfl⟩
    · have h := yb_ifn c6 h
      refine n_iload_n (i := 2) dX12_ends_31 rfl rfl ?_
      refine n_iconst (-1 : Int32) dX12_ends_32 ic_m1 ?_
      refine n_icmp_eq 51 dX12_ends_33 (by decide) (fun c7 => ?_) (fun c7 => ?_)
      · have h := yb_ifp c7 h
        exact p_jump (tj_X12_ends_51 hrc23 h) (And.intro rfl (And.intro rfl (And.intro rfl trivial)))
      · have h := yb_ifn c7 h
        refine n_aload_n (i := 0) dX12_ends_36 rfl rfl ?_
        refine n_iload_n (i := 1) dX12_ends_37 rfl rfl ?_
        refine n_iload_n (i := 3) dX12_ends_38 rfl rfl ?_
        obtain ⟨q8, hq8, h⟩ := yb_bind h
        refine p_callVi (As := [.int x1, .int x3]) (t_X12_barOf hq8) cv_X12_509 (sh_176 _ _) rfl rfl (Nat.le_of_ble_eq_true rfl) dX12_ends_39 (yb_rok (Nat.le_of_ble_eq_true rfl) (by decide)) ⟨rfl, rfl⟩ ⟨Nat.le_refl _, Nat.le_refl _⟩ (fun k9 => ?_)
        refine n_aload_n (i := 0) dX12_ends_42 rfl rfl ?_
        refine n_iload_n (i := 1) dX12_ends_43 rfl rfl ?_
        refine n_iload_n (i := 2) dX12_ends_44 rfl rfl ?_
        obtain ⟨q10, hq10, h⟩ := yb_bind h
        refine p_callVi (As := [.int x1, .int x2]) (t_X12_barOf hq10) cv_X12_509 (sh_176 _ _) rfl rfl (Nat.le_of_ble_eq_true rfl) dX12_ends_45 (yb_rok (Nat.le_of_ble_eq_true rfl) (by decide)) ⟨rfl, rfl⟩ ⟨Nat.le_refl _, Nat.le_refl _⟩ (fun k11 => ?_)
        refine n_icmp_ge 53 dX12_ends_48 (by decide) (fun c12 => ?_) (fun c12 => ?_)
        · have h := yb_ifp c12 h
          exact p_jump (tj_X12_ends_53 hrc23 h) (And.intro rfl (And.intro rfl (And.intro rfl (And.intro rfl trivial))))
        · have h := yb_ifn c12 h
          exact p_jump (tj_X12_ends_51 hrc23 h) (And.intro rfl (And.intro rfl (And.intro rfl trivial)))
set_option maxHeartbeats 4000000 in
set_option maxRecDepth 20000 in
theorem tl_X12_ends_23 {G : yb_G} {X : List (FieldType × Nat)} {x1 : Int32} {out : (Int32 × yb_S)} {x2 : Int32} {x3 : Int32} {s : yb_S} (h : l_X12_ends_23 x1 yb_N x2 x3 s = some out) : Rn G RX12 cX12_ends 4 (Option.some .int) false (yb_rm 9) (yb_qi X out.2 out.1) 0 0 23 [some (.ref (yb_ad G 176)), some (.int x1), some (.int x2), some (.int x3)] [] (yb_mk s X) := t_l_X12_ends_23 _ _ _ _ h
set_option maxHeartbeats 4000000 in
set_option maxRecDepth 20000 in
theorem t_X12_ends {G : yb_G} {X : List (FieldType × Nat)} {a1 : Int32} {s : yb_S} {out : (Int32 × yb_S)} (h : f_X12_ends a1 s = some out) : Ct G yX12_ends cX12_ends 4 (Option.some .int) (yb_rm 9) [.ref (yb_ad G 176), .int a1] (yb_mk s X) (yb_qi X out.2 out.1) := by
  refine Ct.of (own := RX12) (ini := false) (vs := [some (.ref (yb_ad G 176)), some (.int a1), none, none]) ⟨rfl, by decide +kernel⟩ (fun h => by cases h) (Nat.le_of_ble_eq_true rfl) rfl ?_
  unfold f_X12_ends at h
  refine n_aload_n (i := 0) dX12_ends_0 rfl rfl ?_
  refine n_iload_n (i := 1) dX12_ends_1 rfl rfl ?_
  obtain ⟨q1, hq1, h⟩ := yb_bind h
  refine p_callVi (As := [.int a1]) (t_X12_isFamily hq1) cv_X12_282 (sh_176 _ _) rfl rfl (Nat.le_of_ble_eq_true rfl) dX12_ends_2 (yb_rok (Nat.le_of_ble_eq_true rfl) (by decide)) ⟨rfl, rfl⟩ ⟨Nat.le_refl _, Nat.le_refl _⟩ (fun k2 => ?_)
  refine n_if_eq 17 dX12_ends_5 (by decide) (fun c3 => ?_) (fun c3 => ?_)
  · have h := yb_ifp c3 h
    refine n_iconst (-1 : Int32) dX12_ends_17 ic_m1 ?_
    cases h
    exact n_iret dX12_ends_18 rfl rfl (Nat.le_refl _) (Nat.le_refl _) ⟨rfl, rfl⟩
  · have h := yb_ifn c3 h
    refine n_aload_n (i := 0) dX12_ends_8 rfl rfl ?_
    refine p_getr fl_X12_66 (sh_176 _ _) rfl (rR_176_22 _ _) dX12_ends_9 ?_
    refine n_iload_n (i := 1) dX12_ends_12 rfl rfl ?_
    obtain ⟨v4, hv4, h⟩ := yb_bind h
    refine p_iald hv4 (sh_195 _ _) dX12_ends_13 ?_
    refine n_if_eq 19 dX12_ends_14 (by decide) (fun c5 => ?_) (fun c5 => ?_)
    · have h := yb_ifp c5 h
      refine n_iconst (-1 : Int32) dX12_ends_19 ic_m1 ?_
      refine n_istore_n (i := 2) (vs' := [some (.ref (yb_ad G 176)), some (.int a1), some (.int (-1 : Int32)), none]) dX12_ends_20 rfl (Nat.le_of_ble_eq_true rfl) rfl rfl ?_
      refine n_iconst (0 : Int32) dX12_ends_21 ic_0 ?_
      refine n_istore_n (i := 3) (vs' := [some (.ref (yb_ad G 176)), some (.int a1), some (.int (-1 : Int32)), some (.int (0 : Int32))]) dX12_ends_22 rfl (Nat.le_of_ble_eq_true rfl) rfl rfl ?_
      exact p_jump (tl_X12_ends_23 h) (And.intro rfl (And.intro rfl (And.intro rfl (And.intro rfl trivial))))
    · have h := yb_ifn c5 h
      refine n_iconst (-1 : Int32) dX12_ends_17 ic_m1 ?_
      cases h
      exact n_iret dX12_ends_18 rfl rfl (Nat.le_refl _) (Nat.le_refl _) ⟨rfl, rfl⟩
set_option maxHeartbeats 4000000 in
set_option maxRecDepth 20000 in
theorem t_X12_family {G : yb_G} {X : List (FieldType × Nat)} {a1 : Int32} {a2 : Int32} {s : yb_S} {out : (Int32 × yb_S)} (h : f_X12_family a1 a2 s = some out) : Ct G yX12_family cX12_family 4 (Option.some .int) (yb_rm 2) [.ref (yb_ad G 176), .int a1, .int a2] (yb_mk s X) (yb_qi X out.2 out.1) := by
  refine Ct.of (own := RX12) (ini := false) (vs := [some (.ref (yb_ad G 176)), some (.int a1), some (.int a2), none]) ⟨rfl, by decide +kernel⟩ (fun h => by cases h) (Nat.le_of_ble_eq_true rfl) rfl ?_
  unfold f_X12_family at h
  refine n_iload_n (i := 1) dX12_family_0 rfl rfl ?_
  refine n_if_lt 81 dX12_family_1 (by decide) (fun c1 => ?_) (fun c1 => ?_)
  · have h := yb_ifp c1 h
    refine n_iconst (-1 : Int32) dX12_family_81 ic_m1 ?_
    cases h
    exact n_iret dX12_family_82 rfl rfl (Nat.le_refl _) (Nat.le_refl _) ⟨rfl, rfl⟩
  · have h := yb_ifn c1 h
    refine n_iload_n (i := 2) dX12_family_4 rfl rfl ?_
    refine n_if_lt 81 dX12_family_5 (by decide) (fun c2 => ?_) (fun c2 => ?_)
    · have h := yb_ifp c2 h
      refine n_iconst (-1 : Int32) dX12_family_81 ic_m1 ?_
      cases h
      exact n_iret dX12_family_82 rfl rfl (Nat.le_refl _) (Nat.le_refl _) ⟨rfl, rfl⟩
    · have h := yb_ifn c2 h
      refine n_iload_n (i := 1) dX12_family_8 rfl rfl ?_
      refine n_bipush (100 : Int32) dX12_family_9 bp_100 ?_
      refine n_idiv dX12_family_11 (by decide) ?_
      refine n_i2l dX12_family_12 ?_
      refine n_lconst (1 : Int64) dX12_family_13 rfl ?_
      refine n_ldc2 (9 : Int64) k_X12_265 dX12_family_14 ?_
      obtain ⟨q3, hq3, h⟩ := yb_bind h
      refine p_callSi (As := [.long ((a1 / (100 : Int32)).toInt64), .long (1 : Int64), .long (9 : Int64)]) (t_X12_in hq3) cs_X12_247 rfl rfl (Nat.le_of_ble_eq_true rfl) dX12_family_17 (yb_rok (Nat.le_of_ble_eq_true rfl) (by decide)) ⟨rfl, rfl⟩ ⟨Nat.le_refl _, Nat.le_refl _⟩ (fun k4 => ?_)
      refine n_if_eq 81 dX12_family_20 (by decide) (fun c5 => ?_) (fun c5 => ?_)
      · have h := yb_ifp c5 h
        refine n_iconst (-1 : Int32) dX12_family_81 ic_m1 ?_
        cases h
        exact n_iret dX12_family_82 rfl rfl (Nat.le_refl _) (Nat.le_refl _) ⟨rfl, rfl⟩
      · have h := yb_ifn c5 h
        refine n_iload_n (i := 1) dX12_family_23 rfl rfl ?_
        refine n_bipush (10 : Int32) dX12_family_24 bp_10 ?_
        refine n_idiv dX12_family_26 (by decide) ?_
        refine n_bipush (10 : Int32) dX12_family_27 bp_10 ?_
        refine p_irem (by decide) dX12_family_29 ?_
        refine n_iload_n (i := 1) dX12_family_30 rfl rfl ?_
        refine n_bipush (100 : Int32) dX12_family_31 bp_100 ?_
        refine n_idiv dX12_family_33 (by decide) ?_
        refine n_icmp_gt 81 dX12_family_34 (by decide) (fun c6 => ?_) (fun c6 => ?_)
        · have h := yb_ifp c6 h
          refine n_iconst (-1 : Int32) dX12_family_81 ic_m1 ?_
          cases h
          exact n_iret dX12_family_82 rfl rfl (Nat.le_refl _) (Nat.le_refl _) ⟨rfl, rfl⟩
        · have h := yb_ifn c6 h
          refine n_iload_n (i := 1) dX12_family_37 rfl rfl ?_
          refine n_bipush (10 : Int32) dX12_family_38 bp_10 ?_
          refine p_irem (by decide) dX12_family_40 ?_
          refine n_iconst (1 : Int32) dX12_family_41 ic_1 ?_
          refine n_icmp_gt 81 dX12_family_42 (by decide) (fun c7 => ?_) (fun c7 => ?_)
          · have h := yb_ifp c7 h
            refine n_iconst (-1 : Int32) dX12_family_81 ic_m1 ?_
            cases h
            exact n_iret dX12_family_82 rfl rfl (Nat.le_refl _) (Nat.le_refl _) ⟨rfl, rfl⟩
          · have h := yb_ifn c7 h
            refine n_iload_n (i := 2) dX12_family_45 rfl rfl ?_
            refine n_bipush (100 : Int32) dX12_family_46 bp_100 ?_
            refine n_idiv dX12_family_48 (by decide) ?_
            refine n_iconst (3 : Int32) dX12_family_49 ic_3 ?_
            refine n_icmp_gt 81 dX12_family_50 (by decide) (fun c8 => ?_) (fun c8 => ?_)
            · have h := yb_ifp c8 h
              refine n_iconst (-1 : Int32) dX12_family_81 ic_m1 ?_
              cases h
              exact n_iret dX12_family_82 rfl rfl (Nat.le_refl _) (Nat.le_refl _) ⟨rfl, rfl⟩
            · have h := yb_ifn c8 h
              refine n_iload_n (i := 2) dX12_family_53 rfl rfl ?_
              refine n_bipush (10 : Int32) dX12_family_54 bp_10 ?_
              refine n_idiv dX12_family_56 (by decide) ?_
              refine n_bipush (10 : Int32) dX12_family_57 bp_10 ?_
              refine p_irem (by decide) dX12_family_59 ?_
              refine n_iconst (5 : Int32) dX12_family_60 ic_5 ?_
              refine n_icmp_gt 81 dX12_family_61 (by decide) (fun c9 => ?_) (fun c9 => ?_)
              · have h := yb_ifp c9 h
                refine n_iconst (-1 : Int32) dX12_family_81 ic_m1 ?_
                cases h
                exact n_iret dX12_family_82 rfl rfl (Nat.le_refl _) (Nat.le_refl _) ⟨rfl, rfl⟩
              · have h := yb_ifn c9 h
                refine n_iload_n (i := 2) dX12_family_64 rfl rfl ?_
                refine n_bipush (10 : Int32) dX12_family_65 bp_10 ?_
                refine p_irem (by decide) dX12_family_67 ?_
                refine n_iconst (5 : Int32) dX12_family_68 ic_5 ?_
                refine n_icmp_gt 81 dX12_family_69 (by decide) (fun c10 => ?_) (fun c10 => ?_)
                · have h := yb_ifp c10 h
                  refine n_iconst (-1 : Int32) dX12_family_81 ic_m1 ?_
                  cases h
                  exact n_iret dX12_family_82 rfl rfl (Nat.le_refl _) (Nat.le_refl _) ⟨rfl, rfl⟩
                · have h := yb_ifn c10 h
                  refine n_aload_n (i := 0) dX12_family_72 rfl rfl ?_
                  refine p_geti fl_X12_254 (sh_176 _ _) rfl dX12_family_73 ?_
                  refine n_bipush (24 : Int32) dX12_family_76 bp_24 ?_
                  refine n_icmp_ne 83 dX12_family_78 (by decide) (fun c11 => ?_) (fun c11 => ?_)
                  · have h := yb_ifn c11 h
                    refine n_aload_n (i := 0) dX12_family_83 rfl rfl ?_
                    refine p_geti fl_X12_254 (sh_176 _ _) rfl dX12_family_84 ?_
                    refine n_istore_n (i := 3) (vs' := [some (.ref (yb_ad G 176)), some (.int a1), some (.int a2), some (.int (s.1 176 27))]) dX12_family_87 rfl (Nat.le_of_ble_eq_true rfl) rfl rfl ?_
                    refine n_aload_n (i := 0) dX12_family_88 rfl rfl ?_
                    refine p_getr fl_X12_48 (sh_176 _ _) rfl (rR_176_16 _ _) dX12_family_89 ?_
                    refine n_iload_n (i := 3) dX12_family_92 rfl rfl ?_
                    refine n_iload_n (i := 1) dX12_family_93 rfl rfl ?_
                    refine n_bipush (100 : Int32) dX12_family_94 bp_100 ?_
                    refine n_idiv dX12_family_96 (by decide) ?_
                    obtain ⟨s12, hs12, h⟩ := yb_bind h
                    refine p_iast hs12 (sh_189 _ _) dX12_family_97 ?_
                    refine n_aload_n (i := 0) dX12_family_98 rfl rfl ?_
                    refine p_getr fl_X12_51 (sh_176 _ _) rfl (rR_176_17 _ _) dX12_family_99 ?_
                    refine n_iload_n (i := 3) dX12_family_102 rfl rfl ?_
                    refine n_iload_n (i := 1) dX12_family_103 rfl rfl ?_
                    refine n_bipush (10 : Int32) dX12_family_104 bp_10 ?_
                    refine n_idiv dX12_family_106 (by decide) ?_
                    refine n_bipush (10 : Int32) dX12_family_107 bp_10 ?_
                    refine p_irem (by decide) dX12_family_109 ?_
                    obtain ⟨s13, hs13, h⟩ := yb_bind h
                    refine p_iast hs13 (sh_190 _ _) dX12_family_110 ?_
                    refine n_aload_n (i := 0) dX12_family_111 rfl rfl ?_
                    refine p_getr fl_X12_54 (sh_176 _ _) rfl (rR_176_18 _ _) dX12_family_112 ?_
                    refine n_iload_n (i := 3) dX12_family_115 rfl rfl ?_
                    refine n_iload_n (i := 1) dX12_family_116 rfl rfl ?_
                    refine n_bipush (10 : Int32) dX12_family_117 bp_10 ?_
                    refine p_irem (by decide) dX12_family_119 ?_
                    obtain ⟨s14, hs14, h⟩ := yb_bind h
                    refine p_iast hs14 (sh_191 _ _) dX12_family_120 ?_
                    refine n_aload_n (i := 0) dX12_family_121 rfl rfl ?_
                    refine p_getr fl_X12_57 (sh_176 _ _) rfl (rR_176_19 _ _) dX12_family_122 ?_
                    refine n_iload_n (i := 3) dX12_family_125 rfl rfl ?_
                    refine n_iload_n (i := 2) dX12_family_126 rfl rfl ?_
                    refine n_bipush (100 : Int32) dX12_family_127 bp_100 ?_
                    refine n_idiv dX12_family_129 (by decide) ?_
                    obtain ⟨s15, hs15, h⟩ := yb_bind h
                    refine p_iast hs15 (sh_192 _ _) dX12_family_130 ?_
                    refine n_aload_n (i := 0) dX12_family_131 rfl rfl ?_
                    refine p_getr fl_X12_60 (sh_176 _ _) rfl (rR_176_20 _ _) dX12_family_132 ?_
                    refine n_iload_n (i := 3) dX12_family_135 rfl rfl ?_
                    refine n_iload_n (i := 2) dX12_family_136 rfl rfl ?_
                    refine n_bipush (10 : Int32) dX12_family_137 bp_10 ?_
                    refine n_idiv dX12_family_139 (by decide) ?_
                    refine n_bipush (10 : Int32) dX12_family_140 bp_10 ?_
                    refine p_irem (by decide) dX12_family_142 ?_
                    obtain ⟨s16, hs16, h⟩ := yb_bind h
                    refine p_iast hs16 (sh_193 _ _) dX12_family_143 ?_
                    refine n_aload_n (i := 0) dX12_family_144 rfl rfl ?_
                    refine p_getr fl_X12_63 (sh_176 _ _) rfl (rR_176_21 _ _) dX12_family_145 ?_
                    refine n_iload_n (i := 3) dX12_family_148 rfl rfl ?_
                    refine n_iload_n (i := 2) dX12_family_149 rfl rfl ?_
                    refine n_bipush (10 : Int32) dX12_family_150 bp_10 ?_
                    refine p_irem (by decide) dX12_family_152 ?_
                    obtain ⟨s17, hs17, h⟩ := yb_bind h
                    refine p_iast hs17 (sh_194 _ _) dX12_family_153 ?_
                    refine n_aload_n (i := 0) dX12_family_154 rfl rfl ?_
                    refine p_getr fl_X12_66 (sh_176 _ _) rfl (rR_176_22 _ _) dX12_family_155 ?_
                    refine n_iload_n (i := 3) dX12_family_158 rfl rfl ?_
                    refine n_iconst (0 : Int32) dX12_family_159 ic_0 ?_
                    obtain ⟨s18, hs18, h⟩ := yb_bind h
                    refine p_iast hs18 (sh_195 _ _) dX12_family_160 ?_
                    refine n_aload_n (i := 0) dX12_family_161 rfl rfl ?_
                    refine p_getr fl_X12_69 (sh_176 _ _) rfl (rR_176_23 _ _) dX12_family_162 ?_
                    refine n_iload_n (i := 3) dX12_family_165 rfl rfl ?_
                    refine n_iconst (-1 : Int32) dX12_family_166 ic_m1 ?_
                    obtain ⟨s19, hs19, h⟩ := yb_bind h
                    refine p_iast hs19 (sh_196 _ _) dX12_family_167 ?_
                    refine n_aload_n (i := 0) dX12_family_168 rfl rfl ?_
                    refine p_getr fl_X12_75 (sh_176 _ _) rfl (rR_176_25 _ _) dX12_family_169 ?_
                    refine n_iload_n (i := 3) dX12_family_172 rfl rfl ?_
                    refine n_aload_n (i := 0) dX12_family_173 rfl rfl ?_
                    refine p_geti fl_X12_275 (sh_176 _ _) rfl dX12_family_174 ?_
                    obtain ⟨s20, hs20, h⟩ := yb_bind h
                    refine p_iast hs20 (sh_198 _ _) dX12_family_177 ?_
                    refine n_aload_n (i := 0) dX12_family_178 rfl rfl ?_
                    refine p_getr fl_X12_78 (sh_176 _ _) rfl (rR_176_26 _ _) dX12_family_179 ?_
                    refine n_iload_n (i := 3) dX12_family_182 rfl rfl ?_
                    refine n_iconst (-1 : Int32) dX12_family_183 ic_m1 ?_
                    obtain ⟨s21, hs21, h⟩ := yb_bind h
                    refine p_iast hs21 (sh_199 _ _) dX12_family_184 ?_
                    refine n_aload_n (i := 0) dX12_family_185 rfl rfl ?_
                    refine n_dup dX12_family_186 rfl ?_
                    refine p_geti fl_X12_254 (sh_176 _ _) rfl dX12_family_187 ?_
                    refine n_iconst (1 : Int32) dX12_family_190 ic_1 ?_
                    refine n_iadd dX12_family_191 ?_
                    obtain ⟨s22, hs22, h⟩ := yb_bind h
                    refine p_puti hs22 fp_X12_254 (sh_176 _ _) rfl rfl rfl dX12_family_192 ?_
                    refine n_aload_n (i := 0) dX12_family_195 rfl rfl ?_
                    refine n_iconst (0 : Int32) dX12_family_196 ic_0 ?_
                    obtain ⟨s23, hs23, h⟩ := yb_bind h
                    refine p_puti hs23 fp_X12_278 (sh_176 _ _) rfl rfl rfl dX12_family_197 ?_
                    refine n_iload_n (i := 3) dX12_family_200 rfl rfl ?_
                    cases h
                    exact n_iret dX12_family_201 rfl rfl (Nat.le_refl _) (Nat.le_refl _) ⟨rfl, rfl⟩
                  · have h := yb_ifp c11 h
                    refine n_iconst (-1 : Int32) dX12_family_81 ic_m1 ?_
                    cases h
                    exact n_iret dX12_family_82 rfl rfl (Nat.le_refl _) (Nat.le_refl _) ⟨rfl, rfl⟩
set_option maxHeartbeats 4000000 in
set_option maxRecDepth 20000 in
theorem t_l_X12_reads_40 {G : yb_G} {X : List (FieldType × Nat)} {out : yb_S} : ∀ (k0 : Nat) (x1 : Int32) (s : yb_S), l_X12_reads_40 k0 x1 s = some out → Rn G RX12 cX12_reads 2 none false (yb_rm 251) (yb_qv X out) 0 0 40 [some (.ref (yb_ad G 176)), some (.int x1)] [] (yb_mk s X) := by
  intro k0
  induction k0 with
  | zero => intro x1 s h; cases h
  | succ k0 ih =>
    intro x1 s h
    have h : f_X12_reads_40 (fun x1 s => l_X12_reads_40 k0 x1 s) x1 s = some out := h
    have hrc40 := ih
    unfold f_X12_reads_40 at h
    refine n_iload_n (i := 1) dX12_reads_40 rfl rfl ?_
    refine n_if_eq 63 dX12_reads_41 (by decide) (fun c6 => ?_) (fun c6 => ?_)
    · have h := yb_ifp c6 h
      cases h
      exact n_vret dX12_reads_63 rfl (Nat.le_refl _) (Nat.le_refl _) ⟨rfl, rfl⟩
    · have h := yb_ifn c6 h
      refine n_aload_n (i := 0) dX12_reads_44 rfl rfl ?_
      refine p_geti fl_X12_350 (sh_176 _ _) rfl dX12_reads_45 ?_
      refine n_aload_n (i := 0) dX12_reads_48 rfl rfl ?_
      refine p_geti fl_X12_343 (sh_176 _ _) rfl dX12_reads_49 ?_
      refine n_icmp_ge 63 dX12_reads_52 (by decide) (fun c7 => ?_) (fun c7 => ?_)
      · have h := yb_ifp c7 h
        cases h
        exact n_vret dX12_reads_63 rfl (Nat.le_refl _) (Nat.le_refl _) ⟨rfl, rfl⟩
      · have h := yb_ifn c7 h
        refine n_aload_n (i := 0) dX12_reads_55 rfl rfl ?_
        obtain ⟨q8, hq8, h⟩ := yb_bind h
        refine p_callVi (As := []) (t_X12_clauses hq8) cv_X12_434 (sh_176 _ _) rfl rfl (Nat.le_of_ble_eq_true rfl) dX12_reads_56 (yb_rok (Nat.le_of_ble_eq_true rfl) (by decide)) ⟨rfl, rfl⟩ ⟨Nat.le_refl _, Nat.le_refl _⟩ (fun k9 => ?_)
        refine n_istore_n (i := 1) (vs' := [some (.ref (yb_ad G 176)), some (.int q8.1)]) dX12_reads_59 rfl (Nat.le_of_ble_eq_true rfl) rfl rfl ?_
        refine n_goto 40 dX12_reads_60 (by decide) ?_
        exact p_jump (hrc40 q8.1 q8.2 h) (And.intro rfl (And.intro rfl trivial))
set_option maxHeartbeats 4000000 in
set_option maxRecDepth 20000 in
theorem tl_X12_reads_40 {G : yb_G} {X : List (FieldType × Nat)} {out : yb_S} {x1 : Int32} {s : yb_S} (h : l_X12_reads_40 yb_N x1 s = some out) : Rn G RX12 cX12_reads 2 none false (yb_rm 251) (yb_qv X out) 0 0 40 [some (.ref (yb_ad G 176)), some (.int x1)] [] (yb_mk s X) := t_l_X12_reads_40 _ _ _ h
set_option maxHeartbeats 4000000 in
set_option maxRecDepth 20000 in
theorem t_l_X12_reads_7 {G : yb_G} {X : List (FieldType × Nat)} {out : yb_S} : ∀ (k0 : Nat) (x1 : Int32) (s : yb_S), l_X12_reads_7 k0 x1 s = some out → Rn G RX12 cX12_reads 2 none false (yb_rm 251) (yb_qv X out) 0 0 7 [some (.ref (yb_ad G 176)), some (.int x1)] [] (yb_mk s X) := by
  intro k0
  induction k0 with
  | zero => intro x1 s h; cases h
  | succ k0 ih =>
    intro x1 s h
    have h : f_X12_reads_7 (fun x1 s => l_X12_reads_7 k0 x1 s) x1 s = some out := h
    have hrc7 := ih
    unfold f_X12_reads_7 at h
    refine n_iload_n (i := 1) dX12_reads_7 rfl rfl ?_
    refine n_bipush (6 : Int32) dX12_reads_8 bp_6 ?_
    refine n_icmp_ge 29 dX12_reads_10 (by decide) (fun c2 => ?_) (fun c2 => ?_)
    · have h := yb_ifp c2 h
      refine n_aload_n (i := 0) dX12_reads_29 rfl rfl ?_
      refine n_iconst (0 : Int32) dX12_reads_30 ic_0 ?_
      obtain ⟨s3, hs3, h⟩ := yb_bind h
      refine p_puti hs3 fp_X12_350 (sh_176 _ _) rfl rfl rfl dX12_reads_31 ?_
      refine n_aload_n (i := 0) dX12_reads_34 rfl rfl ?_
      obtain ⟨q4, hq4, h⟩ := yb_bind h
      refine p_callVv (As := []) (t_X12_skips hq4) cv_X12_362 (sh_176 _ _) rfl rfl (Nat.le_of_ble_eq_true rfl) dX12_reads_35 (yb_rok (Nat.le_of_ble_eq_true rfl) (by decide)) ⟨rfl, rfl⟩ ⟨Nat.le_refl _, Nat.le_refl _⟩ (fun k5 => ?_)
      refine n_iconst (1 : Int32) dX12_reads_38 ic_1 ?_
      refine n_istore_n (i := 1) (vs' := [some (.ref (yb_ad G 176)), some (.int (1 : Int32))]) dX12_reads_39 rfl (Nat.le_of_ble_eq_true rfl) rfl rfl ?_
      exact p_jump (tl_X12_reads_40 h) (And.intro rfl (And.intro rfl trivial))
    · have h := yb_ifn c2 h
      refine n_aload_n (i := 0) dX12_reads_13 rfl rfl ?_
      refine p_getr fl_X12_128 (sh_176 _ _) rfl (rR_176_51 _ _) dX12_reads_14 ?_
      refine n_bipush (10 : Int32) dX12_reads_17 bp_10 ?_
      obtain ⟨r10, hr10, h⟩ := yb_bind h
      refine p_aald hr10 (sh_321 _ _) (by decide) rfl (rF_321 _ _) dX12_reads_19 ?_
      refine n_iload_n (i := 1) dX12_reads_20 rfl rfl ?_
      refine n_iconst (0 : Int32) dX12_reads_21 ic_0 ?_
      obtain ⟨s11, hs11, h⟩ := yb_bind h
      refine p_iast hs11 (shF_321 hr10 _ _) dX12_reads_22 ?_
      refine n_iinc (vs' := [some (.ref (yb_ad G 176)), some (.int (x1 + (1 : Int32)))]) dX12_reads_23 rfl (ii_1 _) (Nat.le_of_ble_eq_true rfl) rfl rfl ?_
      refine n_goto 7 dX12_reads_26 (by decide) ?_
      exact p_jump (hrc7 (x1 + (1 : Int32)) s11 h) (And.intro rfl (And.intro rfl trivial))
set_option maxHeartbeats 4000000 in
set_option maxRecDepth 20000 in
theorem tl_X12_reads_7 {G : yb_G} {X : List (FieldType × Nat)} {out : yb_S} {x1 : Int32} {s : yb_S} (h : l_X12_reads_7 yb_N x1 s = some out) : Rn G RX12 cX12_reads 2 none false (yb_rm 251) (yb_qv X out) 0 0 7 [some (.ref (yb_ad G 176)), some (.int x1)] [] (yb_mk s X) := t_l_X12_reads_7 _ _ _ h
set_option maxHeartbeats 4000000 in
set_option maxRecDepth 20000 in
theorem t_X12_reads {G : yb_G} {X : List (FieldType × Nat)} {s : yb_S} {out : yb_S} (h : f_X12_reads s = some out) : Ct G yX12_reads cX12_reads 2 none (yb_rm 251) [.ref (yb_ad G 176)] (yb_mk s X) (yb_qv X out) := by
  refine Ct.of (own := RX12) (ini := false) (vs := [some (.ref (yb_ad G 176)), none]) ⟨rfl, by decide +kernel⟩ (fun h => by cases h) (Nat.le_of_ble_eq_true rfl) rfl ?_
  unfold f_X12_reads at h
  refine n_aload_n (i := 0) dX12_reads_0 rfl rfl ?_
  refine n_iconst (-1 : Int32) dX12_reads_1 ic_m1 ?_
  obtain ⟨s1, hs1, h⟩ := yb_bind h
  refine p_puti hs1 fp_X12_373 (sh_176 _ _) rfl rfl rfl dX12_reads_2 ?_
  refine n_iconst (0 : Int32) dX12_reads_5 ic_0 ?_
  refine n_istore_n (i := 1) (vs' := [some (.ref (yb_ad G 176)), some (.int (0 : Int32))]) dX12_reads_6 rfl (Nat.le_of_ble_eq_true rfl) rfl rfl ?_
  exact p_jump (tl_X12_reads_7 h) (And.intro rfl (And.intro rfl trivial))
set_option maxHeartbeats 4000000 in
set_option maxRecDepth 20000 in
theorem t_X12_fault {G : yb_G} {X : List (FieldType × Nat)} {s : yb_S} {out : (Int32 × yb_S)} (h : f_X12_fault s = some out) : Ct G yX12_fault cX12_fault 1 (Option.some .int) (yb_rm 252) [.ref (yb_ad G 176)] (yb_mk s X) (yb_qi X out.2 out.1) := by
  refine Ct.of (own := RX12) (ini := false) (vs := [some (.ref (yb_ad G 176))]) ⟨rfl, by decide +kernel⟩ (fun h => by cases h) (Nat.le_of_ble_eq_true rfl) rfl ?_
  unfold f_X12_fault at h
  refine n_aload_n (i := 0) dX12_fault_0 rfl rfl ?_
  obtain ⟨q1, hq1, h⟩ := yb_bind h
  refine p_callVv (As := []) (t_X12_reads hq1) cv_X12_437 (sh_176 _ _) rfl rfl (Nat.le_of_ble_eq_true rfl) dX12_fault_1 (yb_rok (Nat.le_of_ble_eq_true rfl) (by decide)) ⟨rfl, rfl⟩ ⟨Nat.le_refl _, Nat.le_refl _⟩ (fun k2 => ?_)
  refine n_aload_n (i := 0) dX12_fault_4 rfl rfl ?_
  refine p_geti fl_X12_373 (sh_176 _ _) rfl dX12_fault_5 ?_
  cases h
  exact n_iret dX12_fault_8 rfl rfl (Nat.le_refl _) (Nat.le_refl _) ⟨rfl, rfl⟩
set_option maxHeartbeats 4000000 in
set_option maxRecDepth 20000 in
theorem t_l_X12_feeds_2 {G : yb_G} {X : List (FieldType × Nat)} {x1 : Int32} {out : yb_S} : ∀ (k0 : Nat) (x2 : Int32) (s : yb_S), l_X12_feeds_2 x1 k0 x2 s = some out → Rn G RX12 cX12_feeds 3 none false (yb_rm 1) (yb_qv X out) 0 0 2 [some (.ref (yb_ad G 176)), some (.int x1), some (.int x2)] [] (yb_mk s X) := by
  intro k0
  induction k0 with
  | zero => intro x2 s h; cases h
  | succ k0 ih =>
    intro x2 s h
    have h : f_X12_feeds_2 (fun x2 s => l_X12_feeds_2 x1 k0 x2 s) x1 x2 s = some out := h
    have hrc2 := ih
    unfold f_X12_feeds_2 at h
    refine n_iload_n (i := 2) dX12_feeds_2 rfl rfl ?_
    refine n_if_lt 38 dX12_feeds_3 (by decide) (fun c1 => ?_) (fun c1 => ?_)
    · have h := yb_ifp c1 h
      cases h
      exact n_vret dX12_feeds_38 rfl (Nat.le_refl _) (Nat.le_refl _) ⟨rfl, rfl⟩
    · have h := yb_ifn c1 h
      refine n_aload_n (i := 0) dX12_feeds_6 rfl rfl ?_
      refine p_getr fl_X12_119 (sh_176 _ _) rfl (rR_176_43 _ _) dX12_feeds_7 ?_
      refine n_aload_n (i := 0) dX12_feeds_10 rfl rfl ?_
      refine p_geti fl_X12_343 (sh_176 _ _) rfl dX12_feeds_11 ?_
      refine n_iload_n (i := 1) dX12_feeds_14 rfl rfl ?_
      refine n_bipush (8 : Int32) dX12_feeds_15 bp_8 ?_
      refine n_iload_n (i := 2) dX12_feeds_17 rfl rfl ?_
      refine n_imul dX12_feeds_18 ?_
      refine n_iushr dX12_feeds_19 ?_
      refine n_i2b dX12_feeds_20 ?_
      obtain ⟨s2, hs2, h⟩ := yb_bind h
      refine p_bast hs2 (sh_242 _ _) dX12_feeds_21 ?_
      refine n_aload_n (i := 0) dX12_feeds_22 rfl rfl ?_
      refine n_dup dX12_feeds_23 rfl ?_
      refine p_geti fl_X12_343 (sh_176 _ _) rfl dX12_feeds_24 ?_
      refine n_iconst (1 : Int32) dX12_feeds_27 ic_1 ?_
      refine n_iadd dX12_feeds_28 ?_
      obtain ⟨s3, hs3, h⟩ := yb_bind h
      refine p_puti hs3 fp_X12_343 (sh_176 _ _) rfl rfl rfl dX12_feeds_29 ?_
      refine n_iinc (vs' := [some (.ref (yb_ad G 176)), some (.int x1), some (.int (x2 + (-1 : Int32)))]) dX12_feeds_32 rfl (ii_m1 _) (Nat.le_of_ble_eq_true rfl) rfl rfl ?_
      refine n_goto 2 dX12_feeds_35 (by decide) ?_
      exact p_jump (hrc2 (x2 + (-1 : Int32)) s3 h) (And.intro rfl (And.intro rfl (And.intro rfl trivial)))
set_option maxHeartbeats 4000000 in
set_option maxRecDepth 20000 in
theorem tl_X12_feeds_2 {G : yb_G} {X : List (FieldType × Nat)} {x1 : Int32} {out : yb_S} {x2 : Int32} {s : yb_S} (h : l_X12_feeds_2 x1 yb_N x2 s = some out) : Rn G RX12 cX12_feeds 3 none false (yb_rm 1) (yb_qv X out) 0 0 2 [some (.ref (yb_ad G 176)), some (.int x1), some (.int x2)] [] (yb_mk s X) := t_l_X12_feeds_2 _ _ _ h
set_option maxHeartbeats 4000000 in
set_option maxRecDepth 20000 in
theorem t_X12_feeds {G : yb_G} {X : List (FieldType × Nat)} {a1 : Int32} {s : yb_S} {out : yb_S} (h : f_X12_feeds a1 s = some out) : Ct G yX12_feeds cX12_feeds 3 none (yb_rm 1) [.ref (yb_ad G 176), .int a1] (yb_mk s X) (yb_qv X out) := by
  refine Ct.of (own := RX12) (ini := false) (vs := [some (.ref (yb_ad G 176)), some (.int a1), none]) ⟨rfl, by decide +kernel⟩ (fun h => by cases h) (Nat.le_of_ble_eq_true rfl) rfl ?_
  unfold f_X12_feeds at h
  refine n_iconst (3 : Int32) dX12_feeds_0 ic_3 ?_
  refine n_istore_n (i := 2) (vs' := [some (.ref (yb_ad G 176)), some (.int a1), some (.int (3 : Int32))]) dX12_feeds_1 rfl (Nat.le_of_ble_eq_true rfl) rfl rfl ?_
  exact p_jump (tl_X12_feeds_2 h) (And.intro rfl (And.intro rfl (And.intro rfl trivial)))
set_option maxHeartbeats 4000000 in
set_option maxRecDepth 20000 in
theorem t_X12_feed {G : yb_G} {X : List (FieldType × Nat)} {a1 : Int32} {a2 : Int32} {a3 : Int32} {a4 : Int32} {a5 : Int32} {s : yb_S} {out : (Int32 × yb_S)} (h : f_X12_feed a1 a2 a3 a4 a5 s = some out) : Ct G yX12_feed cX12_feed 6 (Option.some .int) (yb_rm 2) [.ref (yb_ad G 176), .int a1, .int a2, .int a3, .int a4, .int a5] (yb_mk s X) (yb_qi X out.2 out.1) := by
  refine Ct.of (own := RX12) (ini := false) (vs := [some (.ref (yb_ad G 176)), some (.int a1), some (.int a2), some (.int a3), some (.int a4), some (.int a5)]) ⟨rfl, by decide +kernel⟩ (fun h => by cases h) (Nat.le_of_ble_eq_true rfl) rfl ?_
  unfold f_X12_feed at h
  refine n_aload_n (i := 0) dX12_feed_0 rfl rfl ?_
  refine p_geti fl_X12_343 (sh_176 _ _) rfl dX12_feed_1 ?_
  refine n_bipush (20 : Int32) dX12_feed_4 bp_20 ?_
  refine n_iadd dX12_feed_6 ?_
  refine n_sipush (500 : Int32) dX12_feed_7 sp_500 ?_
  refine n_icmp_le 15 dX12_feed_10 (by decide) (fun c1 => ?_) (fun c1 => ?_)
  · have h := yb_ifp c1 h
    refine n_aload_n (i := 0) dX12_feed_15 rfl rfl ?_
    refine n_iload_n (i := 1) dX12_feed_16 rfl rfl ?_
    obtain ⟨q2, hq2, h⟩ := yb_bind h
    refine p_callVv (As := [.int a1]) (t_X12_feeds hq2) cv_X12_346 (sh_176 _ _) rfl rfl (Nat.le_of_ble_eq_true rfl) dX12_feed_17 (yb_rok (Nat.le_of_ble_eq_true rfl) (by decide)) ⟨rfl, rfl⟩ ⟨Nat.le_refl _, Nat.le_refl _⟩ (fun k3 => ?_)
    refine n_aload_n (i := 0) dX12_feed_20 rfl rfl ?_
    refine n_iload_n (i := 2) dX12_feed_21 rfl rfl ?_
    obtain ⟨q4, hq4, h⟩ := yb_bind h
    refine p_callVv (As := [.int a2]) (t_X12_feeds hq4) cv_X12_346 (sh_176 _ _) rfl rfl (Nat.le_of_ble_eq_true rfl) dX12_feed_22 (yb_rok (Nat.le_of_ble_eq_true rfl) (by decide)) ⟨rfl, rfl⟩ ⟨Nat.le_refl _, Nat.le_refl _⟩ (fun k5 => ?_)
    refine n_aload_n (i := 0) dX12_feed_25 rfl rfl ?_
    refine n_iload_n (i := 3) dX12_feed_26 rfl rfl ?_
    obtain ⟨q6, hq6, h⟩ := yb_bind h
    refine p_callVv (As := [.int a3]) (t_X12_feeds hq6) cv_X12_346 (sh_176 _ _) rfl rfl (Nat.le_of_ble_eq_true rfl) dX12_feed_27 (yb_rok (Nat.le_of_ble_eq_true rfl) (by decide)) ⟨rfl, rfl⟩ ⟨Nat.le_refl _, Nat.le_refl _⟩ (fun k7 => ?_)
    refine n_aload_n (i := 0) dX12_feed_30 rfl rfl ?_
    refine n_iload dX12_feed_31 rfl ?_
    obtain ⟨q8, hq8, h⟩ := yb_bind h
    refine p_callVv (As := [.int a4]) (t_X12_feeds hq8) cv_X12_346 (sh_176 _ _) rfl rfl (Nat.le_of_ble_eq_true rfl) dX12_feed_33 (yb_rok (Nat.le_of_ble_eq_true rfl) (by decide)) ⟨rfl, rfl⟩ ⟨Nat.le_refl _, Nat.le_refl _⟩ (fun k9 => ?_)
    refine n_aload_n (i := 0) dX12_feed_36 rfl rfl ?_
    refine n_iload dX12_feed_37 rfl ?_
    obtain ⟨q10, hq10, h⟩ := yb_bind h
    refine p_callVv (As := [.int a5]) (t_X12_feeds hq10) cv_X12_346 (sh_176 _ _) rfl rfl (Nat.le_of_ble_eq_true rfl) dX12_feed_39 (yb_rok (Nat.le_of_ble_eq_true rfl) (by decide)) ⟨rfl, rfl⟩ ⟨Nat.le_refl _, Nat.le_refl _⟩ (fun k11 => ?_)
    refine n_aload_n (i := 0) dX12_feed_42 rfl rfl ?_
    refine p_geti fl_X12_343 (sh_176 _ _) rfl dX12_feed_43 ?_
    cases h
    exact n_iret dX12_feed_46 rfl rfl (Nat.le_refl _) (Nat.le_refl _) ⟨rfl, rfl⟩
  · have h := yb_ifn c1 h
    refine n_iconst (-1 : Int32) dX12_feed_13 ic_m1 ?_
    cases h
    exact n_iret dX12_feed_14 rfl rfl (Nat.le_refl _) (Nat.le_refl _) ⟨rfl, rfl⟩
set_option maxHeartbeats 4000000 in
set_option maxRecDepth 20000 in
theorem t_X12_finds {G : yb_G} {X : List (FieldType × Nat)} {a1 : Int32} {a2 : Int32} {s : yb_S} {out : (Int32 × yb_S)} (h : f_X12_finds a1 a2 s = some out) : Ct G yX12_finds cX12_finds 3 (Option.some .int) (yb_rm 5) [.ref (yb_ad G 176), .int a1, .int a2] (yb_mk s X) (yb_qi X out.2 out.1) := by
  refine Ct.of (own := RX12) (ini := false) (vs := [some (.ref (yb_ad G 176)), some (.int a1), some (.int a2)]) ⟨rfl, by decide +kernel⟩ (fun h => by cases h) (Nat.le_of_ble_eq_true rfl) rfl ?_
  unfold f_X12_finds at h
  refine n_aload_n (i := 0) dX12_finds_0 rfl rfl ?_
  refine n_iload_n (i := 1) dX12_finds_1 rfl rfl ?_
  obtain ⟨q1, hq1, h⟩ := yb_bind h
  refine p_callVi (As := [.int a1]) (t_X12_isFamily hq1) cv_X12_282 (sh_176 _ _) rfl rfl (Nat.le_of_ble_eq_true rfl) dX12_finds_2 (yb_rok (Nat.le_of_ble_eq_true rfl) (by decide)) ⟨rfl, rfl⟩ ⟨Nat.le_refl _, Nat.le_refl _⟩ (fun k2 => ?_)
  refine n_if_eq 25 dX12_finds_5 (by decide) (fun c3 => ?_) (fun c3 => ?_)
  · have h := yb_ifp c3 h
    refine n_iconst (-1 : Int32) dX12_finds_25 ic_m1 ?_
    cases h
    exact n_iret dX12_finds_26 rfl rfl (Nat.le_refl _) (Nat.le_refl _) ⟨rfl, rfl⟩
  · have h := yb_ifn c3 h
    refine n_aload_n (i := 0) dX12_finds_8 rfl rfl ?_
    refine n_iload_n (i := 2) dX12_finds_9 rfl rfl ?_
    obtain ⟨q4, hq4, h⟩ := yb_bind h
    refine p_callVi (As := [.int a2]) (t_X12_isFamily hq4) cv_X12_282 (sh_176 _ _) rfl rfl (Nat.le_of_ble_eq_true rfl) dX12_finds_10 (yb_rok (Nat.le_of_ble_eq_true rfl) (by decide)) ⟨rfl, rfl⟩ ⟨Nat.le_refl _, Nat.le_refl _⟩ (fun k5 => ?_)
    refine n_if_eq 25 dX12_finds_13 (by decide) (fun c6 => ?_) (fun c6 => ?_)
    · have h := yb_ifp c6 h
      refine n_iconst (-1 : Int32) dX12_finds_25 ic_m1 ?_
      cases h
      exact n_iret dX12_finds_26 rfl rfl (Nat.le_refl _) (Nat.le_refl _) ⟨rfl, rfl⟩
    · have h := yb_ifn c6 h
      refine n_aload_n (i := 0) dX12_finds_16 rfl rfl ?_
      refine n_iload_n (i := 1) dX12_finds_17 rfl rfl ?_
      refine n_iload_n (i := 2) dX12_finds_18 rfl rfl ?_
      obtain ⟨q7, hq7, h⟩ := yb_bind h
      refine p_callVi (As := [.int a1, .int a2]) (t_X12_surely hq7) cv_X12_337 (sh_176 _ _) rfl rfl (Nat.le_of_ble_eq_true rfl) dX12_finds_19 (yb_rok (Nat.le_of_ble_eq_true rfl) (by decide)) ⟨rfl, rfl⟩ ⟨Nat.le_refl _, Nat.le_refl _⟩ (fun k8 => ?_)
      refine n_goto 26 dX12_finds_22 (by decide) ?_
      cases h
      exact n_iret dX12_finds_26 rfl rfl (Nat.le_refl _) (Nat.le_refl _) ⟨rfl, rfl⟩
set_option maxHeartbeats 4000000 in
set_option maxRecDepth 20000 in
theorem t_X12_foretell {G : yb_G} {X : List (FieldType × Nat)} {a1 : Int32} {a2 : Int32} {s : yb_S} {out : (Int32 × yb_S)} (h : f_X12_foretell a1 a2 s = some out) : Ct G yX12_foretell cX12_foretell 3 (Option.some .int) (yb_rm 2) [.ref (yb_ad G 176), .int a1, .int a2] (yb_mk s X) (yb_qi X out.2 out.1) := by
  refine Ct.of (own := RX12) (ini := false) (vs := [some (.ref (yb_ad G 176)), some (.int a1), some (.int a2)]) ⟨rfl, by decide +kernel⟩ (fun h => by cases h) (Nat.le_of_ble_eq_true rfl) rfl ?_
  unfold f_X12_foretell at h
  refine n_iload_n (i := 1) dX12_foretell_0 rfl rfl ?_
  refine n_i2l dX12_foretell_1 ?_
  refine n_aload_n (i := 0) dX12_foretell_2 rfl rfl ?_
  refine p_geti fl_X12_275 (sh_176 _ _) rfl dX12_foretell_3 ?_
  refine n_i2l dX12_foretell_6 ?_
  refine n_ldc2 (200 : Int64) k_X12_270 dX12_foretell_7 ?_
  obtain ⟨q1, hq1, h⟩ := yb_bind h
  refine p_callSi (As := [.long (a1.toInt64), .long ((s.1 176 7).toInt64), .long (200 : Int64)]) (t_X12_in hq1) cs_X12_247 rfl rfl (Nat.le_of_ble_eq_true rfl) dX12_foretell_10 (yb_rok (Nat.le_of_ble_eq_true rfl) (by decide)) ⟨rfl, rfl⟩ ⟨Nat.le_refl _, Nat.le_refl _⟩ (fun k2 => ?_)
  refine n_if_eq 39 dX12_foretell_13 (by decide) (fun c3 => ?_) (fun c3 => ?_)
  · have h := yb_ifp c3 h
    refine n_iconst (-1 : Int32) dX12_foretell_39 ic_m1 ?_
    cases h
    exact n_iret dX12_foretell_40 rfl rfl (Nat.le_refl _) (Nat.le_refl _) ⟨rfl, rfl⟩
  · have h := yb_ifn c3 h
    refine n_iload_n (i := 2) dX12_foretell_16 rfl rfl ?_
    refine n_i2l dX12_foretell_17 ?_
    refine n_ldc2 (-100 : Int64) k_X12_576 dX12_foretell_18 ?_
    refine n_ldc2 (100 : Int64) k_X12_578 dX12_foretell_21 ?_
    obtain ⟨q4, hq4, h⟩ := yb_bind h
    refine p_callSi (As := [.long (a2.toInt64), .long (-100 : Int64), .long (100 : Int64)]) (t_X12_in hq4) cs_X12_247 rfl rfl (Nat.le_of_ble_eq_true rfl) dX12_foretell_24 (yb_rok (Nat.le_of_ble_eq_true rfl) (by decide)) ⟨rfl, rfl⟩ ⟨Nat.le_refl _, Nat.le_refl _⟩ (fun k5 => ?_)
    refine n_if_eq 39 dX12_foretell_27 (by decide) (fun c6 => ?_) (fun c6 => ?_)
    · have h := yb_ifp c6 h
      refine n_iconst (-1 : Int32) dX12_foretell_39 ic_m1 ?_
      cases h
      exact n_iret dX12_foretell_40 rfl rfl (Nat.le_refl _) (Nat.le_refl _) ⟨rfl, rfl⟩
    · have h := yb_ifn c6 h
      refine n_aload_n (i := 0) dX12_foretell_30 rfl rfl ?_
      refine p_geti fl_X12_580 (sh_176 _ _) rfl dX12_foretell_31 ?_
      refine n_bipush (40 : Int32) dX12_foretell_34 bp_40 ?_
      refine n_icmp_ne 41 dX12_foretell_36 (by decide) (fun c7 => ?_) (fun c7 => ?_)
      · have h := yb_ifn c7 h
        refine n_aload_n (i := 0) dX12_foretell_41 rfl rfl ?_
        refine p_getr fl_X12_238 (sh_176 _ _) rfl (rR_176_82 _ _) dX12_foretell_42 ?_
        refine n_aload_n (i := 0) dX12_foretell_45 rfl rfl ?_
        refine p_geti fl_X12_580 (sh_176 _ _) rfl dX12_foretell_46 ?_
        refine n_iload_n (i := 1) dX12_foretell_49 rfl rfl ?_
        obtain ⟨s8, hs8, h⟩ := yb_bind h
        refine p_iast hs8 (sh_601 _ _) dX12_foretell_50 ?_
        refine n_aload_n (i := 0) dX12_foretell_51 rfl rfl ?_
        refine p_getr fl_X12_241 (sh_176 _ _) rfl (rR_176_83 _ _) dX12_foretell_52 ?_
        refine n_aload_n (i := 0) dX12_foretell_55 rfl rfl ?_
        refine p_geti fl_X12_580 (sh_176 _ _) rfl dX12_foretell_56 ?_
        refine n_iload_n (i := 2) dX12_foretell_59 rfl rfl ?_
        obtain ⟨s9, hs9, h⟩ := yb_bind h
        refine p_iast hs9 (sh_602 _ _) dX12_foretell_60 ?_
        refine n_aload_n (i := 0) dX12_foretell_61 rfl rfl ?_
        refine n_dup dX12_foretell_62 rfl ?_
        refine p_geti fl_X12_580 (sh_176 _ _) rfl dX12_foretell_63 ?_
        refine n_iconst (1 : Int32) dX12_foretell_66 ic_1 ?_
        refine n_iadd dX12_foretell_67 ?_
        obtain ⟨s10, hs10, h⟩ := yb_bind h
        refine p_puti hs10 fp_X12_580 (sh_176 _ _) rfl rfl rfl dX12_foretell_68 ?_
        refine n_aload_n (i := 0) dX12_foretell_71 rfl rfl ?_
        refine p_geti fl_X12_580 (sh_176 _ _) rfl dX12_foretell_72 ?_
        cases h
        exact n_iret dX12_foretell_75 rfl rfl (Nat.le_refl _) (Nat.le_refl _) ⟨rfl, rfl⟩
      · have h := yb_ifp c7 h
        refine n_iconst (-1 : Int32) dX12_foretell_39 ic_m1 ?_
        cases h
        exact n_iret dX12_foretell_40 rfl rfl (Nat.le_refl _) (Nat.le_refl _) ⟨rfl, rfl⟩
set_option maxHeartbeats 4000000 in
set_option maxRecDepth 20000 in
theorem t_X12_isTown {G : yb_G} {X : List (FieldType × Nat)} {a1 : Int32} {s : yb_S} {out : Int32} (h : f_X12_isTown a1 s = some out) : Ct G yX12_isTown cX12_isTown 2 (Option.some .boolean) (yb_rm 2) [.ref (yb_ad G 176), .int a1] (yb_mk s X) (yb_qi X s out) := by
  refine Ct.of (own := RX12) (ini := false) (vs := [some (.ref (yb_ad G 176)), some (.int a1)]) ⟨rfl, by decide +kernel⟩ (fun h => by cases h) (Nat.le_of_ble_eq_true rfl) rfl ?_
  unfold f_X12_isTown at h
  refine n_iload_n (i := 1) dX12_isTown_0 rfl rfl ?_
  refine n_i2l dX12_isTown_1 ?_
  refine n_lconst (0 : Int64) dX12_isTown_2 rfl ?_
  refine n_aload_n (i := 0) dX12_isTown_3 rfl rfl ?_
  refine p_geti fl_X12_244 (sh_176 _ _) rfl dX12_isTown_4 ?_
  refine n_iconst (1 : Int32) dX12_isTown_7 ic_1 ?_
  refine n_isub dX12_isTown_8 ?_
  refine n_i2l dX12_isTown_9 ?_
  obtain ⟨q1, hq1, h⟩ := yb_bind h
  refine p_callSi (As := [.long (a1.toInt64), .long (0 : Int64), .long (((s.1 176 6) - (1 : Int32)).toInt64)]) (t_X12_in hq1) cs_X12_247 rfl rfl (Nat.le_of_ble_eq_true rfl) dX12_isTown_10 (yb_rok (Nat.le_of_ble_eq_true rfl) (by decide)) ⟨rfl, rfl⟩ ⟨Nat.le_refl _, Nat.le_refl _⟩ (fun k2 => ?_)
  cases h
  exact n_iret dX12_isTown_13 rfl (yb_okv_b k2) (Nat.le_refl _) (Nat.le_refl _) ⟨rfl, rfl⟩
set_option maxHeartbeats 4000000 in
set_option maxRecDepth 20000 in
theorem t_X12_full {G : yb_G} {X : List (FieldType × Nat)} {a1 : Int32} {a2 : Int32} {s : yb_S} {out : (Int32 × yb_S)} (h : f_X12_full a1 a2 s = some out) : Ct G yX12_full cX12_full 3 (Option.some .boolean) (yb_rm 3) [.ref (yb_ad G 176), .int a1, .int a2] (yb_mk s X) (yb_qi X out.2 out.1) := by
  refine Ct.of (own := RX12) (ini := false) (vs := [some (.ref (yb_ad G 176)), some (.int a1), some (.int a2)]) ⟨rfl, by decide +kernel⟩ (fun h => by cases h) (Nat.le_of_ble_eq_true rfl) rfl ?_
  unfold f_X12_full at h
  refine n_aload_n (i := 0) dX12_full_0 rfl rfl ?_
  refine n_iload_n (i := 1) dX12_full_1 rfl rfl ?_
  obtain ⟨q1, hq1, h⟩ := yb_bind h
  refine p_callVi (As := [.int a1]) (t_X12_isTown hq1) cv_X12_261 (sh_176 _ _) rfl rfl (Nat.le_of_ble_eq_true rfl) dX12_full_2 (yb_rok (Nat.le_of_ble_eq_true rfl) (by decide)) ⟨rfl, rfl⟩ ⟨Nat.le_refl _, Nat.le_refl _⟩ (fun k2 => ?_)
  refine n_if_eq 18 dX12_full_5 (by decide) (fun c3 => ?_) (fun c3 => ?_)
  · have h := yb_ifp c3 h
    refine n_iconst (0 : Int32) dX12_full_18 ic_0 ?_
    cases h
    exact n_iret dX12_full_19 rfl (by decide) (Nat.le_refl _) (Nat.le_refl _) ⟨rfl, rfl⟩
  · have h := yb_ifn c3 h
    refine n_aload_n (i := 0) dX12_full_8 rfl rfl ?_
    refine p_getr fl_X12_26 (sh_176 _ _) rfl (rR_176_5 _ _) dX12_full_9 ?_
    refine n_iload_n (i := 1) dX12_full_12 rfl rfl ?_
    obtain ⟨v4, hv4, h⟩ := yb_bind h
    refine p_zald hv4 (sh_182 _ _) dX12_full_13 ?_
    refine n_iload_n (i := 2) dX12_full_14 rfl rfl ?_
    refine n_icmp_ne 20 dX12_full_15 (by decide) (fun c5 => ?_) (fun c5 => ?_)
    · have h := yb_ifn c5 h
      refine n_aload_n (i := 0) dX12_full_20 rfl rfl ?_
      refine p_getr fl_X12_26 (sh_176 _ _) rfl (rR_176_5 _ _) dX12_full_21 ?_
      refine n_iload_n (i := 1) dX12_full_24 rfl rfl ?_
      refine n_iload_n (i := 2) dX12_full_25 rfl rfl ?_
      obtain ⟨s6, hs6, h⟩ := yb_bind h
      refine p_zast hs6 (sh_182 _ _) dX12_full_26 ?_
      refine n_iconst (1 : Int32) dX12_full_27 ic_1 ?_
      cases h
      exact n_iret dX12_full_28 rfl (by decide) (Nat.le_refl _) (Nat.le_refl _) ⟨rfl, rfl⟩
    · have h := yb_ifp c5 h
      refine n_iconst (0 : Int32) dX12_full_18 ic_0 ?_
      cases h
      exact n_iret dX12_full_19 rfl (by decide) (Nat.le_refl _) (Nat.le_refl _) ⟨rfl, rfl⟩
set_option maxHeartbeats 4000000 in
set_option maxRecDepth 20000 in
theorem tj_X12_go_41 {G : yb_G} {X : List (FieldType × Nat)} {s : yb_S} {out : (Int32 × yb_S)} (h : j_X12_go_41 s = some out) : Rn G RX12 cX12_go 3 (Option.some .int) false (yb_rm 9) (yb_qi X out.2 out.1) 0 0 41 [some (.ref (yb_ad G 176)), none, none] [] (yb_mk s X) := by
  unfold j_X12_go_41 at h
  refine n_aload_n (i := 0) dX12_go_41 rfl rfl ?_
  refine p_geti fl_X12_275 (sh_176 _ _) rfl dX12_go_42 ?_
  cases h
  exact n_iret dX12_go_45 rfl rfl (Nat.le_refl _) (Nat.le_refl _) ⟨rfl, rfl⟩
set_option maxHeartbeats 4000000 in
set_option maxRecDepth 20000 in
theorem t_l_X12_go_16 {G : yb_G} {X : List (FieldType × Nat)} {x1 : Int32} {out : (Int32 × yb_S)} : ∀ (k0 : Nat) (x2 : Int32) (s : yb_S), l_X12_go_16 x1 k0 x2 s = some out → Rn G RX12 cX12_go 3 (Option.some .int) false (yb_rm 9) (yb_qi X out.2 out.1) 0 0 16 [some (.ref (yb_ad G 176)), some (.int x1), some (.int x2)] [] (yb_mk s X) := by
  intro k0
  induction k0 with
  | zero => intro x2 s h; cases h
  | succ k0 ih =>
    intro x2 s h
    have h : f_X12_go_16 (fun x2 s => l_X12_go_16 x1 k0 x2 s) x1 x2 s = some out := h
    have hrc16 := ih
    unfold f_X12_go_16 at h
    refine n_iload_n (i := 2) dX12_go_16 rfl rfl ?_
    refine n_iload_n (i := 1) dX12_go_17 rfl rfl ?_
    refine n_icmp_ge 41 dX12_go_18 (by decide) (fun c4 => ?_) (fun c4 => ?_)
    · have h := yb_ifp c4 h
      exact p_jump (tj_X12_go_41 h) (And.intro rfl trivial)
    · have h := yb_ifn c4 h
      refine n_aload_n (i := 0) dX12_go_21 rfl rfl ?_
      refine p_geti fl_X12_275 (sh_176 _ _) rfl dX12_go_22 ?_
      refine n_sipush (200 : Int32) dX12_go_25 sp_200 ?_
      refine n_icmp_ge 41 dX12_go_28 (by decide) (fun c5 => ?_) (fun c5 => ?_)
      · have h := yb_ifp c5 h
        exact p_jump (tj_X12_go_41 h) (And.intro rfl trivial)
      · have h := yb_ifn c5 h
        refine n_aload_n (i := 0) dX12_go_31 rfl rfl ?_
        obtain ⟨q6, hq6, h⟩ := yb_bind h
        refine p_callVv (As := []) (t_X12_day hq6) cv_X12_537 (sh_176 _ _) rfl rfl (Nat.le_of_ble_eq_true rfl) dX12_go_32 (yb_rok (Nat.le_of_ble_eq_true rfl) (by decide)) ⟨rfl, rfl⟩ ⟨Nat.le_refl _, Nat.le_refl _⟩ (fun k7 => ?_)
        refine n_iinc (vs' := [some (.ref (yb_ad G 176)), some (.int x1), some (.int (x2 + (1 : Int32)))]) dX12_go_35 rfl (ii_1 _) (Nat.le_of_ble_eq_true rfl) rfl rfl ?_
        refine n_goto 16 dX12_go_38 (by decide) ?_
        exact p_jump (hrc16 (x2 + (1 : Int32)) q6 h) (And.intro rfl (And.intro rfl (And.intro rfl trivial)))
set_option maxHeartbeats 4000000 in
set_option maxRecDepth 20000 in
theorem tl_X12_go_16 {G : yb_G} {X : List (FieldType × Nat)} {x1 : Int32} {out : (Int32 × yb_S)} {x2 : Int32} {s : yb_S} (h : l_X12_go_16 x1 yb_N x2 s = some out) : Rn G RX12 cX12_go 3 (Option.some .int) false (yb_rm 9) (yb_qi X out.2 out.1) 0 0 16 [some (.ref (yb_ad G 176)), some (.int x1), some (.int x2)] [] (yb_mk s X) := t_l_X12_go_16 _ _ _ h
set_option maxHeartbeats 4000000 in
set_option maxRecDepth 20000 in
theorem t_X12_go {G : yb_G} {X : List (FieldType × Nat)} {a1 : Int32} {s : yb_S} {out : (Int32 × yb_S)} (h : f_X12_go a1 s = some out) : Ct G yX12_go cX12_go 3 (Option.some .int) (yb_rm 9) [.ref (yb_ad G 176), .int a1] (yb_mk s X) (yb_qi X out.2 out.1) := by
  refine Ct.of (own := RX12) (ini := false) (vs := [some (.ref (yb_ad G 176)), some (.int a1), none]) ⟨rfl, by decide +kernel⟩ (fun h => by cases h) (Nat.le_of_ble_eq_true rfl) rfl ?_
  unfold f_X12_go at h
  refine n_iload_n (i := 1) dX12_go_0 rfl rfl ?_
  refine n_i2l dX12_go_1 ?_
  refine n_lconst (0 : Int64) dX12_go_2 rfl ?_
  refine n_ldc2 (40 : Int64) k_X12_535 dX12_go_3 ?_
  obtain ⟨q1, hq1, h⟩ := yb_bind h
  refine p_callSi (As := [.long (a1.toInt64), .long (0 : Int64), .long (40 : Int64)]) (t_X12_in hq1) cs_X12_247 rfl rfl (Nat.le_of_ble_eq_true rfl) dX12_go_6 (yb_rok (Nat.le_of_ble_eq_true rfl) (by decide)) ⟨rfl, rfl⟩ ⟨Nat.le_refl _, Nat.le_refl _⟩ (fun k2 => ?_)
  refine n_if_ne 14 dX12_go_9 (by decide) (fun c3 => ?_) (fun c3 => ?_)
  · have h := yb_ifn c3 h
    refine n_iconst (0 : Int32) dX12_go_14 ic_0 ?_
    refine n_istore_n (i := 2) (vs' := [some (.ref (yb_ad G 176)), some (.int a1), some (.int (0 : Int32))]) dX12_go_15 rfl (Nat.le_of_ble_eq_true rfl) rfl rfl ?_
    exact p_jump (tl_X12_go_16 h) (And.intro rfl (And.intro rfl (And.intro rfl trivial)))
  · have h := yb_ifp c3 h
    refine n_iconst (-1 : Int32) dX12_go_12 ic_m1 ?_
    cases h
    exact n_iret dX12_go_13 rfl rfl (Nat.le_refl _) (Nat.le_refl _) ⟨rfl, rfl⟩
set_option maxHeartbeats 4000000 in
set_option maxRecDepth 20000 in
theorem tj_X12_headsIn_32 {G : yb_G} {X : List (FieldType × Nat)} {rc4 : (Int32 → Int32 → Option Int32)} {x1 : Int32} {x3 : Int32} {y0 : Int32} {y1 : Int32} {s : yb_S} {out : Int32} (hrc4 : ∀ (x2' : Int32) (x3' : Int32), rc4 x2' x3' = some out → Rn G RX12 cX12_headsIn 4 (Option.some .int) false (yb_rm 3) (yb_qi X s out) 0 0 4 [some (.ref (yb_ad G 176)), some (.int x1), some (.int x2'), some (.int x3')] [] (yb_mk s X)) (h : j_X12_headsIn_32 rc4 x1 x3 y0 y1 s = some out) : Rn G RX12 cX12_headsIn 4 (Option.some .int) false (yb_rm 3) (yb_qi X s out) 0 0 32 [some (.ref (yb_ad G 176)), some (.int x1), none, some (.int x3)] [.int y0, .int y1] (yb_mk s X) := by
  unfold j_X12_headsIn_32 at h
  refine n_iadd dX12_headsIn_32 ?_
  refine n_istore_n (i := 2) (vs' := [some (.ref (yb_ad G 176)), some (.int x1), some (.int (y1 + y0)), some (.int x3)]) dX12_headsIn_33 rfl (Nat.le_of_ble_eq_true rfl) rfl rfl ?_
  refine n_iinc (vs' := [some (.ref (yb_ad G 176)), some (.int x1), some (.int (y1 + y0)), some (.int (x3 + (1 : Int32)))]) dX12_headsIn_34 rfl (ii_1 _) (Nat.le_of_ble_eq_true rfl) rfl rfl ?_
  refine n_goto 4 dX12_headsIn_37 (by decide) ?_
  exact p_jump (hrc4 (y1 + y0) (x3 + (1 : Int32)) h) (And.intro rfl (And.intro rfl (And.intro rfl (And.intro rfl trivial))))
set_option maxHeartbeats 4000000 in
set_option maxRecDepth 20000 in
theorem t_l_X12_headsIn_4 {G : yb_G} {X : List (FieldType × Nat)} {x1 : Int32} {s : yb_S} {out : Int32} : ∀ (k0 : Nat) (x2 : Int32) (x3 : Int32), l_X12_headsIn_4 x1 s k0 x2 x3 = some out → Rn G RX12 cX12_headsIn 4 (Option.some .int) false (yb_rm 3) (yb_qi X s out) 0 0 4 [some (.ref (yb_ad G 176)), some (.int x1), some (.int x2), some (.int x3)] [] (yb_mk s X) := by
  intro k0
  induction k0 with
  | zero => intro x2 x3 h; cases h
  | succ k0 ih =>
    intro x2 x3 h
    have h : f_X12_headsIn_4 (fun x2 x3 => l_X12_headsIn_4 x1 s k0 x2 x3) x1 s x2 x3 = some out := h
    have hrc4 := ih
    unfold f_X12_headsIn_4 at h
    refine n_iload_n (i := 3) dX12_headsIn_4 rfl rfl ?_
    refine n_aload_n (i := 0) dX12_headsIn_5 rfl rfl ?_
    refine p_geti fl_X12_254 (sh_176 _ _) rfl dX12_headsIn_6 ?_
    refine n_icmp_ge 40 dX12_headsIn_9 (by decide) (fun c1 => ?_) (fun c1 => ?_)
    · have h := yb_ifp c1 h
      refine n_iload_n (i := 2) dX12_headsIn_40 rfl rfl ?_
      cases h
      exact n_iret dX12_headsIn_41 rfl rfl (Nat.le_refl _) (Nat.le_refl _) ⟨rfl, rfl⟩
    · have h := yb_ifn c1 h
      refine n_iload_n (i := 2) dX12_headsIn_12 rfl rfl ?_
      refine n_aload_n (i := 0) dX12_headsIn_13 rfl rfl ?_
      refine n_iload_n (i := 3) dX12_headsIn_14 rfl rfl ?_
      obtain ⟨q2, hq2, h⟩ := yb_bind h
      refine p_callVi (As := [.int x3]) (t_X12_townFor hq2) cv_X12_458 (sh_176 _ _) rfl rfl (Nat.le_of_ble_eq_true rfl) dX12_headsIn_15 (yb_rok (Nat.le_of_ble_eq_true rfl) (by decide)) ⟨rfl, rfl⟩ ⟨Nat.le_refl _, Nat.le_refl _⟩ (fun k3 => ?_)
      refine n_iload_n (i := 1) dX12_headsIn_18 rfl rfl ?_
      refine n_icmp_ne 31 dX12_headsIn_19 (by decide) (fun c4 => ?_) (fun c4 => ?_)
      · have h := yb_ifn c4 h
        refine n_iconst (0 : Int32) dX12_headsIn_31 ic_0 ?_
        exact p_jump (tj_X12_headsIn_32 hrc4 h) (And.intro rfl (And.intro rfl (And.intro rfl trivial)))
      · have h := yb_ifp c4 h
        refine n_aload_n (i := 0) dX12_headsIn_22 rfl rfl ?_
        refine p_getr fl_X12_48 (sh_176 _ _) rfl (rR_176_16 _ _) dX12_headsIn_23 ?_
        refine n_iload_n (i := 3) dX12_headsIn_26 rfl rfl ?_
        obtain ⟨v5, hv5, h⟩ := yb_bind h
        refine p_iald hv5 (sh_189 _ _) dX12_headsIn_27 ?_
        refine n_goto 32 dX12_headsIn_28 (by decide) ?_
        exact p_jump (tj_X12_headsIn_32 hrc4 h) (And.intro rfl (And.intro rfl (And.intro rfl trivial)))
set_option maxHeartbeats 4000000 in
set_option maxRecDepth 20000 in
theorem tl_X12_headsIn_4 {G : yb_G} {X : List (FieldType × Nat)} {x1 : Int32} {s : yb_S} {out : Int32} {x2 : Int32} {x3 : Int32} (h : l_X12_headsIn_4 x1 s yb_N x2 x3 = some out) : Rn G RX12 cX12_headsIn 4 (Option.some .int) false (yb_rm 3) (yb_qi X s out) 0 0 4 [some (.ref (yb_ad G 176)), some (.int x1), some (.int x2), some (.int x3)] [] (yb_mk s X) := t_l_X12_headsIn_4 _ _ _ h
set_option maxHeartbeats 4000000 in
set_option maxRecDepth 20000 in
theorem t_X12_headsIn {G : yb_G} {X : List (FieldType × Nat)} {a1 : Int32} {s : yb_S} {out : Int32} (h : f_X12_headsIn a1 s = some out) : Ct G yX12_headsIn cX12_headsIn 4 (Option.some .int) (yb_rm 3) [.ref (yb_ad G 176), .int a1] (yb_mk s X) (yb_qi X s out) := by
  refine Ct.of (own := RX12) (ini := false) (vs := [some (.ref (yb_ad G 176)), some (.int a1), none, none]) ⟨rfl, by decide +kernel⟩ (fun h => by cases h) (Nat.le_of_ble_eq_true rfl) rfl ?_
  unfold f_X12_headsIn at h
  refine n_iconst (0 : Int32) dX12_headsIn_0 ic_0 ?_
  refine n_istore_n (i := 2) (vs' := [some (.ref (yb_ad G 176)), some (.int a1), some (.int (0 : Int32)), none]) dX12_headsIn_1 rfl (Nat.le_of_ble_eq_true rfl) rfl rfl ?_
  refine n_iconst (0 : Int32) dX12_headsIn_2 ic_0 ?_
  refine n_istore_n (i := 3) (vs' := [some (.ref (yb_ad G 176)), some (.int a1), some (.int (0 : Int32)), some (.int (0 : Int32))]) dX12_headsIn_3 rfl (Nat.le_of_ble_eq_true rfl) rfl rfl ?_
  exact p_jump (tl_X12_headsIn_4 h) (And.intro rfl (And.intro rfl (And.intro rfl (And.intro rfl trivial))))
set_option maxHeartbeats 4000000 in
set_option maxRecDepth 20000 in
theorem tj_X12_heapSize_28 {G : yb_G} {X : List (FieldType × Nat)} {rc4 : (Int32 → Int32 → Option Int32)} {x1 : Int32} {x3 : Int32} {y0 : Int32} {y1 : Int32} {s : yb_S} {out : Int32} (hrc4 : ∀ (x2' : Int32) (x3' : Int32), rc4 x2' x3' = some out → Rn G RX12 cX12_heapSize 4 (Option.some .int) false (yb_rm 1) (yb_qi X s out) 0 0 4 [some (.ref (yb_ad G 176)), some (.int x1), some (.int x2'), some (.int x3')] [] (yb_mk s X)) (h : j_X12_heapSize_28 rc4 x1 x3 y0 y1 s = some out) : Rn G RX12 cX12_heapSize 4 (Option.some .int) false (yb_rm 1) (yb_qi X s out) 0 0 28 [some (.ref (yb_ad G 176)), some (.int x1), none, some (.int x3)] [.int y0, .int y1] (yb_mk s X) := by
  unfold j_X12_heapSize_28 at h
  refine n_iadd dX12_heapSize_28 ?_
  refine n_istore_n (i := 2) (vs' := [some (.ref (yb_ad G 176)), some (.int x1), some (.int (y1 + y0)), some (.int x3)]) dX12_heapSize_29 rfl (Nat.le_of_ble_eq_true rfl) rfl rfl ?_
  refine n_iinc (vs' := [some (.ref (yb_ad G 176)), some (.int x1), some (.int (y1 + y0)), some (.int (x3 + (1 : Int32)))]) dX12_heapSize_30 rfl (ii_1 _) (Nat.le_of_ble_eq_true rfl) rfl rfl ?_
  refine n_goto 4 dX12_heapSize_33 (by decide) ?_
  exact p_jump (hrc4 (y1 + y0) (x3 + (1 : Int32)) h) (And.intro rfl (And.intro rfl (And.intro rfl (And.intro rfl trivial))))
set_option maxHeartbeats 4000000 in
set_option maxRecDepth 20000 in
theorem t_l_X12_heapSize_4 {G : yb_G} {X : List (FieldType × Nat)} {x1 : Int32} {s : yb_S} {out : Int32} : ∀ (k0 : Nat) (x2 : Int32) (x3 : Int32), l_X12_heapSize_4 x1 s k0 x2 x3 = some out → Rn G RX12 cX12_heapSize 4 (Option.some .int) false (yb_rm 1) (yb_qi X s out) 0 0 4 [some (.ref (yb_ad G 176)), some (.int x1), some (.int x2), some (.int x3)] [] (yb_mk s X) := by
  intro k0
  induction k0 with
  | zero => intro x2 x3 h; cases h
  | succ k0 ih =>
    intro x2 x3 h
    have h : f_X12_heapSize_4 (fun x2 x3 => l_X12_heapSize_4 x1 s k0 x2 x3) x1 s x2 x3 = some out := h
    have hrc4 := ih
    unfold f_X12_heapSize_4 at h
    refine n_iload_n (i := 3) dX12_heapSize_4 rfl rfl ?_
    refine n_aload_n (i := 0) dX12_heapSize_5 rfl rfl ?_
    refine p_geti fl_X12_290 (sh_176 _ _) rfl dX12_heapSize_6 ?_
    refine n_icmp_ge 36 dX12_heapSize_9 (by decide) (fun c1 => ?_) (fun c1 => ?_)
    · have h := yb_ifp c1 h
      refine n_iload_n (i := 2) dX12_heapSize_36 rfl rfl ?_
      cases h
      exact n_iret dX12_heapSize_37 rfl rfl (Nat.le_refl _) (Nat.le_refl _) ⟨rfl, rfl⟩
    · have h := yb_ifn c1 h
      refine n_iload_n (i := 2) dX12_heapSize_12 rfl rfl ?_
      refine n_aload_n (i := 0) dX12_heapSize_13 rfl rfl ?_
      refine p_getr fl_X12_104 (sh_176 _ _) rfl (rR_176_35 _ _) dX12_heapSize_14 ?_
      refine n_iload_n (i := 3) dX12_heapSize_17 rfl rfl ?_
      obtain ⟨v2, hv2, h⟩ := yb_bind h
      refine p_iald hv2 (sh_213 _ _) dX12_heapSize_18 ?_
      refine n_iload_n (i := 1) dX12_heapSize_19 rfl rfl ?_
      refine n_icmp_ne 27 dX12_heapSize_20 (by decide) (fun c3 => ?_) (fun c3 => ?_)
      · have h := yb_ifn c3 h
        refine n_iconst (0 : Int32) dX12_heapSize_27 ic_0 ?_
        exact p_jump (tj_X12_heapSize_28 hrc4 h) (And.intro rfl (And.intro rfl (And.intro rfl trivial)))
      · have h := yb_ifp c3 h
        refine n_iconst (1 : Int32) dX12_heapSize_23 ic_1 ?_
        refine n_goto 28 dX12_heapSize_24 (by decide) ?_
        exact p_jump (tj_X12_heapSize_28 hrc4 h) (And.intro rfl (And.intro rfl (And.intro rfl trivial)))
set_option maxHeartbeats 4000000 in
set_option maxRecDepth 20000 in
theorem tl_X12_heapSize_4 {G : yb_G} {X : List (FieldType × Nat)} {x1 : Int32} {s : yb_S} {out : Int32} {x2 : Int32} {x3 : Int32} (h : l_X12_heapSize_4 x1 s yb_N x2 x3 = some out) : Rn G RX12 cX12_heapSize 4 (Option.some .int) false (yb_rm 1) (yb_qi X s out) 0 0 4 [some (.ref (yb_ad G 176)), some (.int x1), some (.int x2), some (.int x3)] [] (yb_mk s X) := t_l_X12_heapSize_4 _ _ _ h
set_option maxHeartbeats 4000000 in
set_option maxRecDepth 20000 in
theorem t_X12_heapSize {G : yb_G} {X : List (FieldType × Nat)} {a1 : Int32} {s : yb_S} {out : Int32} (h : f_X12_heapSize a1 s = some out) : Ct G yX12_heapSize cX12_heapSize 4 (Option.some .int) (yb_rm 1) [.ref (yb_ad G 176), .int a1] (yb_mk s X) (yb_qi X s out) := by
  refine Ct.of (own := RX12) (ini := false) (vs := [some (.ref (yb_ad G 176)), some (.int a1), none, none]) ⟨rfl, by decide +kernel⟩ (fun h => by cases h) (Nat.le_of_ble_eq_true rfl) rfl ?_
  unfold f_X12_heapSize at h
  refine n_iconst (0 : Int32) dX12_heapSize_0 ic_0 ?_
  refine n_istore_n (i := 2) (vs' := [some (.ref (yb_ad G 176)), some (.int a1), some (.int (0 : Int32)), none]) dX12_heapSize_1 rfl (Nat.le_of_ble_eq_true rfl) rfl rfl ?_
  refine n_iconst (0 : Int32) dX12_heapSize_2 ic_0 ?_
  refine n_istore_n (i := 3) (vs' := [some (.ref (yb_ad G 176)), some (.int a1), some (.int (0 : Int32)), some (.int (0 : Int32))]) dX12_heapSize_3 rfl (Nat.le_of_ble_eq_true rfl) rfl rfl ?_
  exact p_jump (tl_X12_heapSize_4 h) (And.intro rfl (And.intro rfl (And.intro rfl (And.intro rfl trivial))))
set_option maxHeartbeats 4000000 in
set_option maxRecDepth 20000 in
theorem t_X12_home {G : yb_G} {X : List (FieldType × Nat)} {a1 : Int32} {a2 : Int32} {a3 : Int32} {s : yb_S} {out : (Int32 × yb_S)} (h : f_X12_home a1 a2 a3 s = some out) : Ct G yX12_home cX12_home 4 (Option.some .int) (yb_rm 3) [.ref (yb_ad G 176), .int a1, .int a2, .int a3] (yb_mk s X) (yb_qi X out.2 out.1) := by
  refine Ct.of (own := RX12) (ini := false) (vs := [some (.ref (yb_ad G 176)), some (.int a1), some (.int a2), some (.int a3)]) ⟨rfl, by decide +kernel⟩ (fun h => by cases h) (Nat.le_of_ble_eq_true rfl) rfl ?_
  unfold f_X12_home at h
  refine n_aload_n (i := 0) dX12_home_0 rfl rfl ?_
  refine n_iload_n (i := 1) dX12_home_1 rfl rfl ?_
  obtain ⟨q1, hq1, h⟩ := yb_bind h
  refine p_callVi (As := [.int a1]) (t_X12_isTown hq1) cv_X12_261 (sh_176 _ _) rfl rfl (Nat.le_of_ble_eq_true rfl) dX12_home_2 (yb_rok (Nat.le_of_ble_eq_true rfl) (by decide)) ⟨rfl, rfl⟩ ⟨Nat.le_refl _, Nat.le_refl _⟩ (fun k2 => ?_)
  refine n_if_eq 62 dX12_home_5 (by decide) (fun c3 => ?_) (fun c3 => ?_)
  · have h := yb_ifp c3 h
    refine n_iconst (-1 : Int32) dX12_home_62 ic_m1 ?_
    cases h
    exact n_iret dX12_home_63 rfl rfl (Nat.le_refl _) (Nat.le_refl _) ⟨rfl, rfl⟩
  · have h := yb_ifn c3 h
    refine n_iload_n (i := 2) dX12_home_8 rfl rfl ?_
    refine n_if_lt 62 dX12_home_9 (by decide) (fun c4 => ?_) (fun c4 => ?_)
    · have h := yb_ifp c4 h
      refine n_iconst (-1 : Int32) dX12_home_62 ic_m1 ?_
      cases h
      exact n_iret dX12_home_63 rfl rfl (Nat.le_refl _) (Nat.le_refl _) ⟨rfl, rfl⟩
    · have h := yb_ifn c4 h
      refine n_iload_n (i := 2) dX12_home_12 rfl rfl ?_
      refine n_bipush (100 : Int32) dX12_home_13 bp_100 ?_
      refine n_idiv dX12_home_15 (by decide) ?_
      refine n_i2l dX12_home_16 ?_
      refine n_lconst (1 : Int64) dX12_home_17 rfl ?_
      refine n_ldc2 (9 : Int64) k_X12_265 dX12_home_18 ?_
      obtain ⟨q5, hq5, h⟩ := yb_bind h
      refine p_callSi (As := [.long ((a2 / (100 : Int32)).toInt64), .long (1 : Int64), .long (9 : Int64)]) (t_X12_in hq5) cs_X12_247 rfl rfl (Nat.le_of_ble_eq_true rfl) dX12_home_21 (yb_rok (Nat.le_of_ble_eq_true rfl) (by decide)) ⟨rfl, rfl⟩ ⟨Nat.le_refl _, Nat.le_refl _⟩ (fun k6 => ?_)
      refine n_if_eq 62 dX12_home_24 (by decide) (fun c7 => ?_) (fun c7 => ?_)
      · have h := yb_ifp c7 h
        refine n_iconst (-1 : Int32) dX12_home_62 ic_m1 ?_
        cases h
        exact n_iret dX12_home_63 rfl rfl (Nat.le_refl _) (Nat.le_refl _) ⟨rfl, rfl⟩
      · have h := yb_ifn c7 h
        refine n_iload_n (i := 2) dX12_home_27 rfl rfl ?_
        refine n_bipush (10 : Int32) dX12_home_28 bp_10 ?_
        refine n_idiv dX12_home_30 (by decide) ?_
        refine n_bipush (10 : Int32) dX12_home_31 bp_10 ?_
        refine p_irem (by decide) dX12_home_33 ?_
        refine n_iconst (1 : Int32) dX12_home_34 ic_1 ?_
        refine n_icmp_gt 62 dX12_home_35 (by decide) (fun c8 => ?_) (fun c8 => ?_)
        · have h := yb_ifp c8 h
          refine n_iconst (-1 : Int32) dX12_home_62 ic_m1 ?_
          cases h
          exact n_iret dX12_home_63 rfl rfl (Nat.le_refl _) (Nat.le_refl _) ⟨rfl, rfl⟩
        · have h := yb_ifn c8 h
          refine n_iload_n (i := 2) dX12_home_38 rfl rfl ?_
          refine n_bipush (10 : Int32) dX12_home_39 bp_10 ?_
          refine p_irem (by decide) dX12_home_41 ?_
          refine n_iconst (4 : Int32) dX12_home_42 ic_4 ?_
          refine n_icmp_gt 62 dX12_home_43 (by decide) (fun c9 => ?_) (fun c9 => ?_)
          · have h := yb_ifp c9 h
            refine n_iconst (-1 : Int32) dX12_home_62 ic_m1 ?_
            cases h
            exact n_iret dX12_home_63 rfl rfl (Nat.le_refl _) (Nat.le_refl _) ⟨rfl, rfl⟩
          · have h := yb_ifn c9 h
            refine n_iload_n (i := 3) dX12_home_46 rfl rfl ?_
            obtain ⟨q10, hq10, h⟩ := yb_bind h
            refine p_callSi (As := [.int a3]) (t_X12_areDays hq10) cs_X12_267 rfl rfl (Nat.le_of_ble_eq_true rfl) dX12_home_47 (yb_rok (Nat.le_of_ble_eq_true rfl) (by decide)) ⟨rfl, rfl⟩ ⟨Nat.le_refl _, Nat.le_refl _⟩ (fun k11 => ?_)
            refine n_if_eq 62 dX12_home_50 (by decide) (fun c12 => ?_) (fun c12 => ?_)
            · have h := yb_ifp c12 h
              refine n_iconst (-1 : Int32) dX12_home_62 ic_m1 ?_
              cases h
              exact n_iret dX12_home_63 rfl rfl (Nat.le_refl _) (Nat.le_refl _) ⟨rfl, rfl⟩
            · have h := yb_ifn c12 h
              refine n_aload_n (i := 0) dX12_home_53 rfl rfl ?_
              refine p_geti fl_X12_251 (sh_176 _ _) rfl dX12_home_54 ?_
              refine n_bipush (24 : Int32) dX12_home_57 bp_24 ?_
              refine n_icmp_ne 64 dX12_home_59 (by decide) (fun c13 => ?_) (fun c13 => ?_)
              · have h := yb_ifn c13 h
                refine n_aload_n (i := 0) dX12_home_64 rfl rfl ?_
                refine p_getr fl_X12_30 (sh_176 _ _) rfl (rR_176_9 _ _) dX12_home_65 ?_
                refine n_aload_n (i := 0) dX12_home_68 rfl rfl ?_
                refine p_geti fl_X12_251 (sh_176 _ _) rfl dX12_home_69 ?_
                refine n_iload_n (i := 1) dX12_home_72 rfl rfl ?_
                obtain ⟨s14, hs14, h⟩ := yb_bind h
                refine p_iast hs14 (sh_183 _ _) dX12_home_73 ?_
                refine n_aload_n (i := 0) dX12_home_74 rfl rfl ?_
                refine p_getr fl_X12_33 (sh_176 _ _) rfl (rR_176_10 _ _) dX12_home_75 ?_
                refine n_aload_n (i := 0) dX12_home_78 rfl rfl ?_
                refine p_geti fl_X12_251 (sh_176 _ _) rfl dX12_home_79 ?_
                refine n_iload_n (i := 2) dX12_home_82 rfl rfl ?_
                refine n_bipush (100 : Int32) dX12_home_83 bp_100 ?_
                refine n_idiv dX12_home_85 (by decide) ?_
                obtain ⟨s15, hs15, h⟩ := yb_bind h
                refine p_iast hs15 (sh_184 _ _) dX12_home_86 ?_
                refine n_aload_n (i := 0) dX12_home_87 rfl rfl ?_
                refine p_getr fl_X12_36 (sh_176 _ _) rfl (rR_176_11 _ _) dX12_home_88 ?_
                refine n_aload_n (i := 0) dX12_home_91 rfl rfl ?_
                refine p_geti fl_X12_251 (sh_176 _ _) rfl dX12_home_92 ?_
                refine n_iload_n (i := 2) dX12_home_95 rfl rfl ?_
                refine n_bipush (10 : Int32) dX12_home_96 bp_10 ?_
                refine n_idiv dX12_home_98 (by decide) ?_
                refine n_bipush (10 : Int32) dX12_home_99 bp_10 ?_
                refine p_irem (by decide) dX12_home_101 ?_
                obtain ⟨s16, hs16, h⟩ := yb_bind h
                refine p_iast hs16 (sh_185 _ _) dX12_home_102 ?_
                refine n_aload_n (i := 0) dX12_home_103 rfl rfl ?_
                refine p_getr fl_X12_39 (sh_176 _ _) rfl (rR_176_12 _ _) dX12_home_104 ?_
                refine n_aload_n (i := 0) dX12_home_107 rfl rfl ?_
                refine p_geti fl_X12_251 (sh_176 _ _) rfl dX12_home_108 ?_
                refine n_iload_n (i := 2) dX12_home_111 rfl rfl ?_
                refine n_bipush (10 : Int32) dX12_home_112 bp_10 ?_
                refine p_irem (by decide) dX12_home_114 ?_
                obtain ⟨s17, hs17, h⟩ := yb_bind h
                refine p_iast hs17 (sh_186 _ _) dX12_home_115 ?_
                refine n_aload_n (i := 0) dX12_home_116 rfl rfl ?_
                refine p_getr fl_X12_42 (sh_176 _ _) rfl (rR_176_13 _ _) dX12_home_117 ?_
                refine n_aload_n (i := 0) dX12_home_120 rfl rfl ?_
                refine p_geti fl_X12_251 (sh_176 _ _) rfl dX12_home_121 ?_
                refine n_iload_n (i := 3) dX12_home_124 rfl rfl ?_
                refine n_sipush (1000 : Int32) dX12_home_125 sp_1000 ?_
                refine n_idiv dX12_home_128 (by decide) ?_
                obtain ⟨s18, hs18, h⟩ := yb_bind h
                refine p_iast hs18 (sh_187 _ _) dX12_home_129 ?_
                refine n_aload_n (i := 0) dX12_home_130 rfl rfl ?_
                refine p_getr fl_X12_45 (sh_176 _ _) rfl (rR_176_14 _ _) dX12_home_131 ?_
                refine n_aload_n (i := 0) dX12_home_134 rfl rfl ?_
                refine p_geti fl_X12_251 (sh_176 _ _) rfl dX12_home_135 ?_
                refine n_iload_n (i := 3) dX12_home_138 rfl rfl ?_
                refine n_sipush (1000 : Int32) dX12_home_139 sp_1000 ?_
                refine p_irem (by decide) dX12_home_142 ?_
                obtain ⟨s19, hs19, h⟩ := yb_bind h
                refine p_iast hs19 (sh_188 _ _) dX12_home_143 ?_
                refine n_aload_n (i := 0) dX12_home_144 rfl rfl ?_
                refine n_dup dX12_home_145 rfl ?_
                refine p_geti fl_X12_251 (sh_176 _ _) rfl dX12_home_146 ?_
                refine n_iconst (1 : Int32) dX12_home_149 ic_1 ?_
                refine n_iadd dX12_home_150 ?_
                obtain ⟨s20, hs20, h⟩ := yb_bind h
                refine p_puti hs20 fp_X12_251 (sh_176 _ _) rfl rfl rfl dX12_home_151 ?_
                refine n_aload_n (i := 0) dX12_home_154 rfl rfl ?_
                refine p_geti fl_X12_251 (sh_176 _ _) rfl dX12_home_155 ?_
                refine n_iconst (1 : Int32) dX12_home_158 ic_1 ?_
                refine n_isub dX12_home_159 ?_
                cases h
                exact n_iret dX12_home_160 rfl rfl (Nat.le_refl _) (Nat.le_refl _) ⟨rfl, rfl⟩
              · have h := yb_ifp c13 h
                refine n_iconst (-1 : Int32) dX12_home_62 ic_m1 ?_
                cases h
                exact n_iret dX12_home_63 rfl rfl (Nat.le_refl _) (Nat.le_refl _) ⟨rfl, rfl⟩
set_option maxHeartbeats 4000000 in
set_option maxRecDepth 20000 in
theorem t_X12_shareOf {G : yb_G} {X : List (FieldType × Nat)} {a1 : Int32} {s : yb_S} {out : (Int32 × yb_S)} (h : f_X12_shareOf a1 s = some out) : Ct G yX12_shareOf cX12_shareOf 2 (Option.some .int) (yb_rm 4) [.ref (yb_ad G 176), .int a1] (yb_mk s X) (yb_qi X out.2 out.1) := by
  refine Ct.of (own := RX12) (ini := false) (vs := [some (.ref (yb_ad G 176)), some (.int a1)]) ⟨rfl, by decide +kernel⟩ (fun h => by cases h) (Nat.le_of_ble_eq_true rfl) rfl ?_
  unfold f_X12_shareOf at h
  refine n_aload_n (i := 0) dX12_shareOf_0 rfl rfl ?_
  obtain ⟨q1, hq1, h⟩ := yb_bind h
  refine p_callVv (As := []) (t_X12_clears hq1) cv_X12_464 (sh_176 _ _) rfl rfl (Nat.le_of_ble_eq_true rfl) dX12_shareOf_1 (yb_rok (Nat.le_of_ble_eq_true rfl) (by decide)) ⟨rfl, rfl⟩ ⟨Nat.le_refl _, Nat.le_refl _⟩ (fun k2 => ?_)
  refine n_aload_n (i := 0) dX12_shareOf_4 rfl rfl ?_
  refine p_getr fl_X12_188 (sh_176 _ _) rfl (rR_176_59 _ _) dX12_shareOf_5 ?_
  refine n_bipush (12 : Int32) dX12_shareOf_8 bp_12 ?_
  refine n_aload_n (i := 0) dX12_shareOf_10 rfl rfl ?_
  refine p_getr fl_X12_16 (sh_176 _ _) rfl (rR_176_2 _ _) dX12_shareOf_11 ?_
  refine n_iload_n (i := 1) dX12_shareOf_14 rfl rfl ?_
  obtain ⟨v3, hv3, h⟩ := yb_bind h
  refine p_iald hv3 (sh_179 _ _) dX12_shareOf_15 ?_
  refine n_aload_n (i := 0) dX12_shareOf_16 rfl rfl ?_
  refine n_iload_n (i := 1) dX12_shareOf_17 rfl rfl ?_
  refine n_iconst (-1 : Int32) dX12_shareOf_18 ic_m1 ?_
  obtain ⟨q4, hq4, h⟩ := yb_bind h
  refine p_callVi (As := [.int a1, .int (-1 : Int32)]) (t_X12_pupilsIn hq4) cv_X12_473 (sh_176 _ _) rfl rfl (Nat.le_of_ble_eq_true rfl) dX12_shareOf_19 (yb_rok (Nat.le_of_ble_eq_true rfl) (by decide)) ⟨rfl, rfl⟩ ⟨Nat.le_refl _, Nat.le_refl _⟩ (fun k5 => ?_)
  refine n_isub dX12_shareOf_22 ?_
  obtain ⟨s6, hs6, h⟩ := yb_bind h
  refine p_iast hs6 (sh_337 _ _) dX12_shareOf_23 ?_
  refine n_aload_n (i := 0) dX12_shareOf_24 rfl rfl ?_
  refine p_getr fl_X12_188 (sh_176 _ _) rfl (rR_176_59 _ _) dX12_shareOf_25 ?_
  refine n_bipush (15 : Int32) dX12_shareOf_28 bp_15 ?_
  refine n_aload_n (i := 0) dX12_shareOf_30 rfl rfl ?_
  refine n_iload_n (i := 1) dX12_shareOf_31 rfl rfl ?_
  obtain ⟨q7, hq7, h⟩ := yb_bind h
  refine p_callVi (As := [.int a1]) (t_X12_roomsIn hq7) cv_X12_479 (sh_176 _ _) rfl rfl (Nat.le_of_ble_eq_true rfl) dX12_shareOf_32 (yb_rok (Nat.le_of_ble_eq_true rfl) (by decide)) ⟨rfl, rfl⟩ ⟨Nat.le_refl _, Nat.le_refl _⟩ (fun k8 => ?_)
  obtain ⟨s9, hs9, h⟩ := yb_bind h
  refine p_iast hs9 (sh_337 _ _) dX12_shareOf_35 ?_
  refine n_aload_n (i := 0) dX12_shareOf_36 rfl rfl ?_
  refine n_iconst (1 : Int32) dX12_shareOf_37 ic_1 ?_
  obtain ⟨q10, hq10, h⟩ := yb_bind h
  refine p_callVi (As := [.int (1 : Int32)]) (t_X12_tells hq10) cv_X12_482 (sh_176 _ _) rfl rfl (Nat.le_of_ble_eq_true rfl) dX12_shareOf_38 (yb_rok (Nat.le_of_ble_eq_true rfl) (by decide)) ⟨rfl, rfl⟩ ⟨Nat.le_refl _, Nat.le_refl _⟩ (fun k11 => ?_)
  cases h
  exact n_iret dX12_shareOf_41 rfl rfl (Nat.le_refl _) (Nat.le_refl _) ⟨rfl, rfl⟩
set_option maxHeartbeats 4000000 in
set_option maxRecDepth 20000 in
theorem t_X12_lackOf {G : yb_G} {X : List (FieldType × Nat)} {a1 : Int32} {s : yb_S} {out : (Int32 × yb_S)} (h : f_X12_lackOf a1 s = some out) : Ct G yX12_lackOf cX12_lackOf 2 (Option.some .int) (yb_rm 5) [.ref (yb_ad G 176), .int a1] (yb_mk s X) (yb_qi X out.2 out.1) := by
  refine Ct.of (own := RX12) (ini := false) (vs := [some (.ref (yb_ad G 176)), some (.int a1)]) ⟨rfl, by decide +kernel⟩ (fun h => by cases h) (Nat.le_of_ble_eq_true rfl) rfl ?_
  unfold f_X12_lackOf at h
  refine n_aload_n (i := 0) dX12_lackOf_0 rfl rfl ?_
  refine n_iload_n (i := 1) dX12_lackOf_1 rfl rfl ?_
  obtain ⟨q1, hq1, h⟩ := yb_bind h
  refine p_callVi (As := [.int a1]) (t_X12_shareOf hq1) cv_X12_485 (sh_176 _ _) rfl rfl (Nat.le_of_ble_eq_true rfl) dX12_lackOf_2 (yb_rok (Nat.le_of_ble_eq_true rfl) (by decide)) ⟨rfl, rfl⟩ ⟨Nat.le_refl _, Nat.le_refl _⟩ (fun k2 => ?_)
  refine n_aload_n (i := 0) dX12_lackOf_5 rfl rfl ?_
  refine n_iload_n (i := 1) dX12_lackOf_6 rfl rfl ?_
  obtain ⟨q3, hq3, h⟩ := yb_bind h
  refine p_callVi (As := [.int a1]) (t_X12_headsIn hq3) cv_X12_488 (sh_176 _ _) rfl rfl (Nat.le_of_ble_eq_true rfl) dX12_lackOf_7 (yb_rok (Nat.le_of_ble_eq_true rfl) (by decide)) ⟨rfl, rfl⟩ ⟨Nat.le_refl _, Nat.le_refl _⟩ (fun k4 => ?_)
  refine n_isub dX12_lackOf_10 ?_
  cases h
  exact n_iret dX12_lackOf_11 rfl rfl (Nat.le_refl _) (Nat.le_refl _) ⟨rfl, rfl⟩
set_option maxHeartbeats 4000000 in
set_option maxRecDepth 20000 in
theorem tj_X12_homeFor_96 {G : yb_G} {X : List (FieldType × Nat)} {rc7 : (Int32 → Int32 → Int32 → yb_S → Option (Int32 × yb_S))} {x1 : Int32} {x2 : Int32} {x3 : Int32} {x4 : Int32} {s : yb_S} {out : (Int32 × yb_S)} (hrc7 : ∀ (x2' : Int32) (x3' : Int32) (x4' : Int32) (s' : yb_S), rc7 x2' x3' x4' s' = some out → Rn G RX12 cX12_homeFor 7 (Option.some .int) false (yb_rm 9) (yb_qi X out.2 out.1) 0 0 7 [some (.ref (yb_ad G 176)), some (.int x1), some (.int x2'), some (.int x3'), some (.int x4'), none, none] [] (yb_mk s' X)) (h : j_X12_homeFor_96 rc7 x1 x2 x3 x4 s = some out) : Rn G RX12 cX12_homeFor 7 (Option.some .int) false (yb_rm 9) (yb_qi X out.2 out.1) 0 0 96 [some (.ref (yb_ad G 176)), some (.int x1), some (.int x2), some (.int x3), some (.int x4), none, none] [] (yb_mk s X) := by
  unfold j_X12_homeFor_96 at h
  refine n_iinc (vs' := [some (.ref (yb_ad G 176)), some (.int x1), some (.int x2), some (.int x3), some (.int (x4 + (1 : Int32))), none, none]) dX12_homeFor_96 rfl (ii_1 _) (Nat.le_of_ble_eq_true rfl) rfl rfl ?_
  refine n_goto 7 dX12_homeFor_99 (by decide) ?_
  exact p_jump (hrc7 x2 x3 (x4 + (1 : Int32)) s h) (And.intro rfl (And.intro rfl (And.intro rfl (And.intro rfl (And.intro rfl trivial)))))
set_option maxHeartbeats 4000000 in
set_option maxRecDepth 20000 in
theorem tj_X12_homeFor_90 {G : yb_G} {X : List (FieldType × Nat)} {rc7 : (Int32 → Int32 → Int32 → yb_S → Option (Int32 × yb_S))} {x1 : Int32} {x4 : Int32} {x6 : Int32} {s : yb_S} {out : (Int32 × yb_S)} (hrc7 : ∀ (x2' : Int32) (x3' : Int32) (x4' : Int32) (s' : yb_S), rc7 x2' x3' x4' s' = some out → Rn G RX12 cX12_homeFor 7 (Option.some .int) false (yb_rm 9) (yb_qi X out.2 out.1) 0 0 7 [some (.ref (yb_ad G 176)), some (.int x1), some (.int x2'), some (.int x3'), some (.int x4'), none, none] [] (yb_mk s' X)) (h : j_X12_homeFor_90 rc7 x1 x4 x6 s = some out) : Rn G RX12 cX12_homeFor 7 (Option.some .int) false (yb_rm 9) (yb_qi X out.2 out.1) 0 0 90 [some (.ref (yb_ad G 176)), some (.int x1), none, none, some (.int x4), none, some (.int x6)] [] (yb_mk s X) := by
  unfold j_X12_homeFor_90 at h
  refine n_iload dX12_homeFor_90 rfl ?_
  refine n_istore_n (i := 2) (vs' := [some (.ref (yb_ad G 176)), some (.int x1), some (.int x4), none, some (.int x4), none, some (.int x6)]) dX12_homeFor_92 rfl (Nat.le_of_ble_eq_true rfl) rfl rfl ?_
  refine n_iload dX12_homeFor_93 rfl ?_
  refine n_istore_n (i := 3) (vs' := [some (.ref (yb_ad G 176)), some (.int x1), some (.int x4), some (.int x6), some (.int x4), none, some (.int x6)]) dX12_homeFor_95 rfl (Nat.le_of_ble_eq_true rfl) rfl rfl ?_
  exact p_jump (tj_X12_homeFor_96 hrc7 h) (And.intro rfl (And.intro rfl (And.intro rfl (And.intro rfl (And.intro rfl trivial)))))
set_option maxHeartbeats 4000000 in
set_option maxRecDepth 20000 in
theorem tj_X12_homeFor_66 {G : yb_G} {X : List (FieldType × Nat)} {rc7 : (Int32 → Int32 → Int32 → yb_S → Option (Int32 × yb_S))} {x1 : Int32} {x2 : Int32} {x3 : Int32} {x4 : Int32} {x5 : Int32} {y0 : Int32} {y1 : Int32} {s : yb_S} {out : (Int32 × yb_S)} (hrc7 : ∀ (x2' : Int32) (x3' : Int32) (x4' : Int32) (s' : yb_S), rc7 x2' x3' x4' s' = some out → Rn G RX12 cX12_homeFor 7 (Option.some .int) false (yb_rm 9) (yb_qi X out.2 out.1) 0 0 7 [some (.ref (yb_ad G 176)), some (.int x1), some (.int x2'), some (.int x3'), some (.int x4'), none, none] [] (yb_mk s' X)) (h : j_X12_homeFor_66 rc7 x1 x2 x3 x4 x5 y0 y1 s = some out) : Rn G RX12 cX12_homeFor 7 (Option.some .int) false (yb_rm 9) (yb_qi X out.2 out.1) 0 0 66 [some (.ref (yb_ad G 176)), some (.int x1), some (.int x2), some (.int x3), some (.int x4), some (.int x5), none] [.int y0, .int y1] (yb_mk s X) := by
  unfold j_X12_homeFor_66 at h
  refine n_iadd dX12_homeFor_66 ?_
  refine n_aload_n (i := 0) dX12_homeFor_67 rfl rfl ?_
  refine n_iload dX12_homeFor_68 rfl ?_
  obtain ⟨q10, hq10, h⟩ := yb_bind h
  refine p_callVi (As := [.int x5]) (t_X12_lackOf hq10) cv_X12_494 (sh_176 _ _) rfl rfl (Nat.le_of_ble_eq_true rfl) dX12_homeFor_70 (yb_rok (Nat.le_of_ble_eq_true rfl) (by decide)) ⟨rfl, rfl⟩ ⟨Nat.le_refl _, Nat.le_refl _⟩ (fun k11 => ?_)
  refine n_iadd dX12_homeFor_73 ?_
  refine n_istore (i := 6) (vs' := [some (.ref (yb_ad G 176)), some (.int x1), some (.int x2), some (.int x3), some (.int x4), some (.int x5), some (.int ((y1 + y0) + q10.1))]) dX12_homeFor_74 (Nat.le_of_ble_eq_true rfl) rfl rfl ?_
  refine n_iload_n (i := 2) dX12_homeFor_76 rfl rfl ?_
  refine n_iconst (-1 : Int32) dX12_homeFor_77 ic_m1 ?_
  refine n_icmp_eq 90 dX12_homeFor_78 (by decide) (fun c12 => ?_) (fun c12 => ?_)
  · have h := yb_ifp c12 h
    exact p_jump (tj_X12_homeFor_90 hrc7 h) (And.intro rfl (And.intro rfl (And.intro rfl (And.intro rfl trivial))))
  · have h := yb_ifn c12 h
    refine n_iload dX12_homeFor_81 rfl ?_
    refine n_iload_n (i := 3) dX12_homeFor_83 rfl rfl ?_
    refine n_icmp_gt 90 dX12_homeFor_84 (by decide) (fun c13 => ?_) (fun c13 => ?_)
    · have h := yb_ifp c13 h
      exact p_jump (tj_X12_homeFor_90 hrc7 h) (And.intro rfl (And.intro rfl (And.intro rfl (And.intro rfl trivial))))
    · have h := yb_ifn c13 h
      refine n_goto 96 dX12_homeFor_87 (by decide) ?_
      exact p_jump (tj_X12_homeFor_96 hrc7 h) (And.intro rfl (And.intro rfl (And.intro rfl (And.intro rfl (And.intro rfl trivial)))))
set_option maxHeartbeats 4000000 in
set_option maxRecDepth 20000 in
theorem t_l_X12_homeFor_7 {G : yb_G} {X : List (FieldType × Nat)} {x1 : Int32} {out : (Int32 × yb_S)} : ∀ (k0 : Nat) (x2 : Int32) (x3 : Int32) (x4 : Int32) (s : yb_S), l_X12_homeFor_7 x1 k0 x2 x3 x4 s = some out → Rn G RX12 cX12_homeFor 7 (Option.some .int) false (yb_rm 9) (yb_qi X out.2 out.1) 0 0 7 [some (.ref (yb_ad G 176)), some (.int x1), some (.int x2), some (.int x3), some (.int x4), none, none] [] (yb_mk s X) := by
  intro k0
  induction k0 with
  | zero => intro x2 x3 x4 s h; cases h
  | succ k0 ih =>
    intro x2 x3 x4 s h
    have h : f_X12_homeFor_7 (fun x2 x3 x4 s => l_X12_homeFor_7 x1 k0 x2 x3 x4 s) x1 x2 x3 x4 s = some out := h
    have hrc7 := ih
    unfold f_X12_homeFor_7 at h
    refine n_iload dX12_homeFor_7 rfl ?_
    refine n_aload_n (i := 0) dX12_homeFor_9 rfl rfl ?_
    refine p_geti fl_X12_251 (sh_176 _ _) rfl dX12_homeFor_10 ?_
    refine n_icmp_ge 102 dX12_homeFor_13 (by decide) (fun c1 => ?_) (fun c1 => ?_)
    · have h := yb_ifp c1 h
      refine n_iload_n (i := 2) dX12_homeFor_102 rfl rfl ?_
      cases h
      exact n_iret dX12_homeFor_103 rfl rfl (Nat.le_refl _) (Nat.le_refl _) ⟨rfl, rfl⟩
    · have h := yb_ifn c1 h
      refine n_aload_n (i := 0) dX12_homeFor_16 rfl rfl ?_
      refine n_iload_n (i := 1) dX12_homeFor_17 rfl rfl ?_
      refine n_iload dX12_homeFor_18 rfl ?_
      obtain ⟨q2, hq2, h⟩ := yb_bind h
      refine p_callVi (As := [.int x1, .int x4]) (t_X12_barOf hq2) cv_X12_509 (sh_176 _ _) rfl rfl (Nat.le_of_ble_eq_true rfl) dX12_homeFor_20 (yb_rok (Nat.le_of_ble_eq_true rfl) (by decide)) ⟨rfl, rfl⟩ ⟨Nat.le_refl _, Nat.le_refl _⟩ (fun k3 => ?_)
      refine n_if_eq 29 dX12_homeFor_23 (by decide) (fun c4 => ?_) (fun c4 => ?_)
      · have h := yb_ifp c4 h
        refine n_aload_n (i := 0) dX12_homeFor_29 rfl rfl ?_
        refine p_getr fl_X12_30 (sh_176 _ _) rfl (rR_176_9 _ _) dX12_homeFor_30 ?_
        refine n_iload dX12_homeFor_33 rfl ?_
        obtain ⟨v5, hv5, h⟩ := yb_bind h
        refine p_iald hv5 (sh_183 _ _) dX12_homeFor_35 ?_
        refine n_istore (i := 5) (vs' := [some (.ref (yb_ad G 176)), some (.int x1), some (.int x2), some (.int x3), some (.int x4), some (.int v5), none]) dX12_homeFor_36 (Nat.le_of_ble_eq_true rfl) rfl rfl ?_
        refine n_sipush (1000 : Int32) dX12_homeFor_38 sp_1000 ?_
        refine n_aload_n (i := 0) dX12_homeFor_41 rfl rfl ?_
        refine n_iload_n (i := 1) dX12_homeFor_42 rfl rfl ?_
        refine n_iload dX12_homeFor_43 rfl ?_
        obtain ⟨q6, hq6, h⟩ := yb_bind h
        refine p_callVi (As := [.int x1, .int v5]) (t_X12_kinIn hq6) cv_X12_470 (sh_176 _ _) rfl rfl (Nat.le_of_ble_eq_true rfl) dX12_homeFor_45 (yb_rok (Nat.le_of_ble_eq_true rfl) (by decide)) ⟨rfl, rfl⟩ ⟨Nat.le_refl _, Nat.le_refl _⟩ (fun k7 => ?_)
        refine n_imul dX12_homeFor_48 ?_
        refine n_aload_n (i := 0) dX12_homeFor_49 rfl rfl ?_
        refine p_getr fl_X12_78 (sh_176 _ _) rfl (rR_176_26 _ _) dX12_homeFor_50 ?_
        refine n_iload_n (i := 1) dX12_homeFor_53 rfl rfl ?_
        obtain ⟨v8, hv8, h⟩ := yb_bind h
        refine p_iald hv8 (sh_199 _ _) dX12_homeFor_54 ?_
        refine n_iload dX12_homeFor_55 rfl ?_
        refine n_icmp_ne 65 dX12_homeFor_57 (by decide) (fun c9 => ?_) (fun c9 => ?_)
        · have h := yb_ifn c9 h
          refine n_iconst (0 : Int32) dX12_homeFor_65 ic_0 ?_
          exact p_jump (tj_X12_homeFor_66 hrc7 h) (And.intro rfl (And.intro rfl (And.intro rfl (And.intro rfl (And.intro rfl (And.intro rfl trivial))))))
        · have h := yb_ifp c9 h
          refine n_bipush (100 : Int32) dX12_homeFor_60 bp_100 ?_
          refine n_goto 66 dX12_homeFor_62 (by decide) ?_
          exact p_jump (tj_X12_homeFor_66 hrc7 h) (And.intro rfl (And.intro rfl (And.intro rfl (And.intro rfl (And.intro rfl (And.intro rfl trivial))))))
      · have h := yb_ifn c4 h
        refine n_goto 96 dX12_homeFor_26 (by decide) ?_
        exact p_jump (tj_X12_homeFor_96 hrc7 h) (And.intro rfl (And.intro rfl (And.intro rfl (And.intro rfl (And.intro rfl trivial)))))
set_option maxHeartbeats 4000000 in
set_option maxRecDepth 20000 in
theorem tl_X12_homeFor_7 {G : yb_G} {X : List (FieldType × Nat)} {x1 : Int32} {out : (Int32 × yb_S)} {x2 : Int32} {x3 : Int32} {x4 : Int32} {s : yb_S} (h : l_X12_homeFor_7 x1 yb_N x2 x3 x4 s = some out) : Rn G RX12 cX12_homeFor 7 (Option.some .int) false (yb_rm 9) (yb_qi X out.2 out.1) 0 0 7 [some (.ref (yb_ad G 176)), some (.int x1), some (.int x2), some (.int x3), some (.int x4), none, none] [] (yb_mk s X) := t_l_X12_homeFor_7 _ _ _ _ _ h
set_option maxHeartbeats 4000000 in
set_option maxRecDepth 20000 in
theorem t_X12_homeFor {G : yb_G} {X : List (FieldType × Nat)} {a1 : Int32} {s : yb_S} {out : (Int32 × yb_S)} (h : f_X12_homeFor a1 s = some out) : Ct G yX12_homeFor cX12_homeFor 7 (Option.some .int) (yb_rm 9) [.ref (yb_ad G 176), .int a1] (yb_mk s X) (yb_qi X out.2 out.1) := by
  refine Ct.of (own := RX12) (ini := false) (vs := [some (.ref (yb_ad G 176)), some (.int a1), none, none, none, none, none]) ⟨rfl, by decide +kernel⟩ (fun h => by cases h) (Nat.le_of_ble_eq_true rfl) rfl ?_
  unfold f_X12_homeFor at h
  refine n_iconst (-1 : Int32) dX12_homeFor_0 ic_m1 ?_
  refine n_istore_n (i := 2) (vs' := [some (.ref (yb_ad G 176)), some (.int a1), some (.int (-1 : Int32)), none, none, none, none]) dX12_homeFor_1 rfl (Nat.le_of_ble_eq_true rfl) rfl rfl ?_
  refine n_iconst (0 : Int32) dX12_homeFor_2 ic_0 ?_
  refine n_istore_n (i := 3) (vs' := [some (.ref (yb_ad G 176)), some (.int a1), some (.int (-1 : Int32)), some (.int (0 : Int32)), none, none, none]) dX12_homeFor_3 rfl (Nat.le_of_ble_eq_true rfl) rfl rfl ?_
  refine n_iconst (0 : Int32) dX12_homeFor_4 ic_0 ?_
  refine n_istore (i := 4) (vs' := [some (.ref (yb_ad G 176)), some (.int a1), some (.int (-1 : Int32)), some (.int (0 : Int32)), some (.int (0 : Int32)), none, none]) dX12_homeFor_5 (Nat.le_of_ble_eq_true rfl) rfl rfl ?_
  exact p_jump (tl_X12_homeFor_7 h) (And.intro rfl (And.intro rfl (And.intro rfl (And.intro rfl (And.intro rfl trivial)))))
set_option maxHeartbeats 4000000 in
set_option maxRecDepth 20000 in
theorem t_X12_is {G : yb_G} {X : List (FieldType × Nat)} {a1 : Int32} {a2 : Int32} {s : yb_S} {out : (Int32 × yb_S)} (h : f_X12_is a1 a2 s = some out) : Ct G yX12_is cX12_is 3 (Option.some .int) (yb_rm 6) [.ref (yb_ad G 176), .int a1, .int a2] (yb_mk s X) (yb_qi X out.2 out.1) := by
  refine Ct.of (own := RX12) (ini := false) (vs := [some (.ref (yb_ad G 176)), some (.int a1), some (.int a2)]) ⟨rfl, by decide +kernel⟩ (fun h => by cases h) (Nat.le_of_ble_eq_true rfl) rfl ?_
  unfold f_X12_is at h
  refine n_aload_n (i := 0) dX12_is_0 rfl rfl ?_
  refine n_iload_n (i := 1) dX12_is_1 rfl rfl ?_
  obtain ⟨q1, hq1, h⟩ := yb_bind h
  refine p_callVi (As := [.int a1]) (t_X12_isTown hq1) cv_X12_261 (sh_176 _ _) rfl rfl (Nat.le_of_ble_eq_true rfl) dX12_is_2 (yb_rok (Nat.le_of_ble_eq_true rfl) (by decide)) ⟨rfl, rfl⟩ ⟨Nat.le_refl _, Nat.le_refl _⟩ (fun k2 => ?_)
  refine n_if_ne 10 dX12_is_5 (by decide) (fun c3 => ?_) (fun c3 => ?_)
  · have h := yb_ifn c3 h
    refine n_iload_n (i := 2) dX12_is_10 rfl rfl ?_
    by_cases c4 : a2 = (0 : Int32)
    · have h := yb_ifp c4 h
      refine n_tableIn (off := 37) 48 dX12_is_11 (by rw [c4]; decide) (by rw [c4]; decide) (by rw [c4]; decide) (by decide) ?_
      refine n_aload_n (i := 0) dX12_is_48 rfl rfl ?_
      refine p_getr fl_X12_9 (sh_176 _ _) rfl (rR_176_0 _ _) dX12_is_49 ?_
      refine n_iload_n (i := 1) dX12_is_52 rfl rfl ?_
      obtain ⟨v10, hv10, h⟩ := yb_bind h
      refine p_iald hv10 (sh_177 _ _) dX12_is_53 ?_
      cases h
      exact n_iret dX12_is_54 rfl rfl (Nat.le_refl _) (Nat.le_refl _) ⟨rfl, rfl⟩
    · have h := yb_ifn c4 h
      by_cases c5 : a2 = (1 : Int32)
      · have h := yb_ifp c5 h
        refine n_tableIn (off := 44) 55 dX12_is_11 (by rw [c5]; decide) (by rw [c5]; decide) (by rw [c5]; decide) (by decide) ?_
        refine n_aload_n (i := 0) dX12_is_55 rfl rfl ?_
        refine n_iload_n (i := 1) dX12_is_56 rfl rfl ?_
        obtain ⟨q11, hq11, h⟩ := yb_bind h
        refine p_callVi (As := [.int a1]) (t_X12_headsIn hq11) cv_X12_488 (sh_176 _ _) rfl rfl (Nat.le_of_ble_eq_true rfl) dX12_is_57 (yb_rok (Nat.le_of_ble_eq_true rfl) (by decide)) ⟨rfl, rfl⟩ ⟨Nat.le_refl _, Nat.le_refl _⟩ (fun k12 => ?_)
        cases h
        exact n_iret dX12_is_60 rfl rfl (Nat.le_refl _) (Nat.le_refl _) ⟨rfl, rfl⟩
      · have h := yb_ifn c5 h
        by_cases c6 : a2 = (2 : Int32)
        · have h := yb_ifp c6 h
          refine n_tableIn (off := 50) 61 dX12_is_11 (by rw [c6]; decide) (by rw [c6]; decide) (by rw [c6]; decide) (by decide) ?_
          refine n_aload_n (i := 0) dX12_is_61 rfl rfl ?_
          refine p_getr fl_X12_16 (sh_176 _ _) rfl (rR_176_2 _ _) dX12_is_62 ?_
          refine n_iload_n (i := 1) dX12_is_65 rfl rfl ?_
          obtain ⟨v13, hv13, h⟩ := yb_bind h
          refine p_iald hv13 (sh_179 _ _) dX12_is_66 ?_
          refine n_aload_n (i := 0) dX12_is_67 rfl rfl ?_
          refine n_iload_n (i := 1) dX12_is_68 rfl rfl ?_
          refine n_iconst (-1 : Int32) dX12_is_69 ic_m1 ?_
          obtain ⟨q14, hq14, h⟩ := yb_bind h
          refine p_callVi (As := [.int a1, .int (-1 : Int32)]) (t_X12_pupilsIn hq14) cv_X12_473 (sh_176 _ _) rfl rfl (Nat.le_of_ble_eq_true rfl) dX12_is_70 (yb_rok (Nat.le_of_ble_eq_true rfl) (by decide)) ⟨rfl, rfl⟩ ⟨Nat.le_refl _, Nat.le_refl _⟩ (fun k15 => ?_)
          refine n_isub dX12_is_73 ?_
          cases h
          exact n_iret dX12_is_74 rfl rfl (Nat.le_refl _) (Nat.le_refl _) ⟨rfl, rfl⟩
        · have h := yb_ifn c6 h
          by_cases c7 : a2 = (3 : Int32)
          · have h := yb_ifp c7 h
            refine n_tableIn (off := 64) 75 dX12_is_11 (by rw [c7]; decide) (by rw [c7]; decide) (by rw [c7]; decide) (by decide) ?_
            refine n_aload_n (i := 0) dX12_is_75 rfl rfl ?_
            refine p_getr fl_X12_22 (sh_176 _ _) rfl (rR_176_4 _ _) dX12_is_76 ?_
            refine n_iload_n (i := 1) dX12_is_79 rfl rfl ?_
            obtain ⟨v16, hv16, h⟩ := yb_bind h
            refine p_lald hv16 (sh_181 _ _) dX12_is_80 ?_
            refine n_ldc2 (2000000000 : Int64) k_X12_592 dX12_is_81 ?_
            refine n_lcmp dX12_is_84 ?_
            refine n_if_le 94 dX12_is_85 (by decide) (fun c17 => ?_) (fun c17 => ?_)
            · have h := yb_ifp c17 h
              refine n_aload_n (i := 0) dX12_is_94 rfl rfl ?_
              refine p_getr fl_X12_22 (sh_176 _ _) rfl (rR_176_4 _ _) dX12_is_95 ?_
              refine n_iload_n (i := 1) dX12_is_98 rfl rfl ?_
              obtain ⟨v18, hv18, h⟩ := yb_bind h
              refine p_lald hv18 (sh_181 _ _) dX12_is_99 ?_
              refine n_l2i dX12_is_100 ?_
              cases h
              exact n_iret dX12_is_101 rfl rfl (Nat.le_refl _) (Nat.le_refl _) ⟨rfl, rfl⟩
            · have h := yb_ifn c17 h
              refine n_ldcw (2000000000 : Int32) k_X12_594 dX12_is_88 ?_
              refine n_goto 101 dX12_is_91 (by decide) ?_
              cases h
              exact n_iret dX12_is_101 rfl rfl (Nat.le_refl _) (Nat.le_refl _) ⟨rfl, rfl⟩
          · have h := yb_ifn c7 h
            by_cases c8 : a2 = (4 : Int32)
            · have h := yb_ifp c8 h
              refine n_tableIn (off := 91) 102 dX12_is_11 (by rw [c8]; decide) (by rw [c8]; decide) (by rw [c8]; decide) (by decide) ?_
              refine n_aload_n (i := 0) dX12_is_102 rfl rfl ?_
              refine p_getr fl_X12_26 (sh_176 _ _) rfl (rR_176_5 _ _) dX12_is_103 ?_
              refine n_iload_n (i := 1) dX12_is_106 rfl rfl ?_
              obtain ⟨v19, hv19, h⟩ := yb_bind h
              refine p_zald hv19 (sh_182 _ _) dX12_is_107 ?_
              refine n_if_eq 115 dX12_is_108 (by decide) (fun c20 => ?_) (fun c20 => ?_)
              · have h := yb_ifp c20 h
                refine n_iconst (0 : Int32) dX12_is_115 ic_0 ?_
                cases h
                exact n_iret dX12_is_116 rfl rfl (Nat.le_refl _) (Nat.le_refl _) ⟨rfl, rfl⟩
              · have h := yb_ifn c20 h
                refine n_iconst (1 : Int32) dX12_is_111 ic_1 ?_
                refine n_goto 116 dX12_is_112 (by decide) ?_
                cases h
                exact n_iret dX12_is_116 rfl rfl (Nat.le_refl _) (Nat.le_refl _) ⟨rfl, rfl⟩
            · have h := yb_ifn c8 h
              by_cases c9 : a2 = (5 : Int32)
              · have h := yb_ifp c9 h
                refine n_tableIn (off := 106) 117 dX12_is_11 (by rw [c9]; decide) (by rw [c9]; decide) (by rw [c9]; decide) (by decide) ?_
                refine n_aload_n (i := 0) dX12_is_117 rfl rfl ?_
                refine n_iload_n (i := 1) dX12_is_118 rfl rfl ?_
                obtain ⟨q21, hq21, h⟩ := yb_bind h
                refine p_callVi (As := [.int a1]) (t_X12_lackOf hq21) cv_X12_494 (sh_176 _ _) rfl rfl (Nat.le_of_ble_eq_true rfl) dX12_is_119 (yb_rok (Nat.le_of_ble_eq_true rfl) (by decide)) ⟨rfl, rfl⟩ ⟨Nat.le_refl _, Nat.le_refl _⟩ (fun k22 => ?_)
                refine n_if_ge 129 dX12_is_122 (by decide) (fun c23 => ?_) (fun c23 => ?_)
                · have h := yb_ifp c23 h
                  refine n_aload_n (i := 0) dX12_is_129 rfl rfl ?_
                  refine n_iload_n (i := 1) dX12_is_130 rfl rfl ?_
                  obtain ⟨q24, hq24, h⟩ := yb_bind h
                  refine p_callVi (As := [.int a1]) (t_X12_lackOf hq24) cv_X12_494 (sh_176 _ _) rfl rfl (Nat.le_of_ble_eq_true rfl) dX12_is_131 (yb_rok (Nat.le_of_ble_eq_true rfl) (by decide)) ⟨rfl, rfl⟩ ⟨Nat.le_refl _, Nat.le_refl _⟩ (fun k25 => ?_)
                  cases h
                  exact n_iret dX12_is_134 rfl rfl (Nat.le_refl _) (Nat.le_refl _) ⟨rfl, rfl⟩
                · have h := yb_ifn c23 h
                  refine n_iconst (0 : Int32) dX12_is_125 ic_0 ?_
                  refine n_goto 134 dX12_is_126 (by decide) ?_
                  cases h
                  exact n_iret dX12_is_134 rfl rfl (Nat.le_refl _) (Nat.le_refl _) ⟨rfl, rfl⟩
              · have h := yb_ifn c9 h
                refine n_tableOut 135 dX12_is_11 (by have z0 := lv_neT c4 (a := 0) (by decide); have z1 := lv_neT c5 (a := 1) (by decide); have z2 := lv_neT c6 (a := 2) (by decide); have z3 := lv_neT c7 (a := 3) (by decide); have z4 := lv_neT c8 (a := 4) (by decide); have z5 := lv_neT c9 (a := 5) (by decide); omega) (by decide) ?_
                refine n_iconst (-1 : Int32) dX12_is_135 ic_m1 ?_
                cases h
                exact n_iret dX12_is_136 rfl rfl (Nat.le_refl _) (Nat.le_refl _) ⟨rfl, rfl⟩
  · have h := yb_ifp c3 h
    refine n_iconst (-1 : Int32) dX12_is_8 ic_m1 ?_
    cases h
    exact n_iret dX12_is_9 rfl rfl (Nat.le_refl _) (Nat.le_refl _) ⟨rfl, rfl⟩
set_option maxHeartbeats 4000000 in
set_option maxRecDepth 20000 in
theorem t_X12_isMatch {G : yb_G} {X : List (FieldType × Nat)} {a1 : Int32} {a2 : Int32} {s : yb_S} {out : Int32} (h : f_X12_isMatch a1 a2 s = some out) : Ct G yX12_isMatch cX12_isMatch 3 (Option.some .boolean) (yb_rm 4) [.ref (yb_ad G 176), .int a1, .int a2] (yb_mk s X) (yb_qi X s out) := by
  refine Ct.of (own := RX12) (ini := false) (vs := [some (.ref (yb_ad G 176)), some (.int a1), some (.int a2)]) ⟨rfl, by decide +kernel⟩ (fun h => by cases h) (Nat.le_of_ble_eq_true rfl) rfl ?_
  unfold f_X12_isMatch at h
  refine n_aload_n (i := 0) dX12_isMatch_0 rfl rfl ?_
  refine p_getr fl_X12_86 (sh_176 _ _) rfl (rR_176_29 _ _) dX12_isMatch_1 ?_
  refine n_iload_n (i := 2) dX12_isMatch_4 rfl rfl ?_
  obtain ⟨v1, hv1, h⟩ := yb_bind h
  refine p_iald hv1 (sh_207 _ _) dX12_isMatch_5 ?_
  refine n_aload_n (i := 0) dX12_isMatch_6 rfl rfl ?_
  refine p_getr fl_X12_86 (sh_176 _ _) rfl (rR_176_29 _ _) dX12_isMatch_7 ?_
  refine n_iload_n (i := 1) dX12_isMatch_10 rfl rfl ?_
  obtain ⟨v2, hv2, h⟩ := yb_bind h
  refine p_iald hv2 (sh_207 _ _) dX12_isMatch_11 ?_
  refine n_icmp_eq 38 dX12_isMatch_12 (by decide) (fun c3 => ?_) (fun c3 => ?_)
  · have h := yb_ifp c3 h
    refine n_iconst (0 : Int32) dX12_isMatch_38 ic_0 ?_
    cases h
    exact n_iret dX12_isMatch_39 rfl (by decide) (Nat.le_refl _) (Nat.le_refl _) ⟨rfl, rfl⟩
  · have h := yb_ifn c3 h
    refine n_aload_n (i := 0) dX12_isMatch_15 rfl rfl ?_
    refine n_iload_n (i := 2) dX12_isMatch_16 rfl rfl ?_
    refine n_iload_n (i := 1) dX12_isMatch_17 rfl rfl ?_
    obtain ⟨q4, hq4, h⟩ := yb_bind h
    refine p_callVi (As := [.int a2, .int a1]) (t_X12_areBarred hq4) cv_X12_310 (sh_176 _ _) rfl rfl (Nat.le_of_ble_eq_true rfl) dX12_isMatch_18 (yb_rok (Nat.le_of_ble_eq_true rfl) (by decide)) ⟨rfl, rfl⟩ ⟨Nat.le_refl _, Nat.le_refl _⟩ (fun k5 => ?_)
    refine n_if_ne 38 dX12_isMatch_21 (by decide) (fun c6 => ?_) (fun c6 => ?_)
    · have h := yb_ifn c6 h
      refine n_iconst (0 : Int32) dX12_isMatch_38 ic_0 ?_
      cases h
      exact n_iret dX12_isMatch_39 rfl (by decide) (Nat.le_refl _) (Nat.le_refl _) ⟨rfl, rfl⟩
    · have h := yb_ifp c6 h
      refine n_aload_n (i := 0) dX12_isMatch_24 rfl rfl ?_
      refine n_iload_n (i := 1) dX12_isMatch_25 rfl rfl ?_
      refine n_iload_n (i := 2) dX12_isMatch_26 rfl rfl ?_
      obtain ⟨q7, hq7, h⟩ := yb_bind h
      refine p_callVi (As := [.int a1, .int a2]) (t_X12_pointsOf hq7) cv_X12_315 (sh_176 _ _) rfl rfl (Nat.le_of_ble_eq_true rfl) dX12_isMatch_27 (yb_rok (Nat.le_of_ble_eq_true rfl) (by decide)) ⟨rfl, rfl⟩ ⟨Nat.le_refl _, Nat.le_refl _⟩ (fun k8 => ?_)
      refine n_iconst (4 : Int32) dX12_isMatch_30 ic_4 ?_
      refine n_icmp_lt 38 dX12_isMatch_31 (by decide) (fun c9 => ?_) (fun c9 => ?_)
      · have h := yb_ifp c9 h
        refine n_iconst (0 : Int32) dX12_isMatch_38 ic_0 ?_
        cases h
        exact n_iret dX12_isMatch_39 rfl (by decide) (Nat.le_refl _) (Nat.le_refl _) ⟨rfl, rfl⟩
      · have h := yb_ifn c9 h
        refine n_iconst (1 : Int32) dX12_isMatch_34 ic_1 ?_
        refine n_goto 39 dX12_isMatch_35 (by decide) ?_
        cases h
        exact n_iret dX12_isMatch_39 rfl (by decide) (Nat.le_refl _) (Nat.le_refl _) ⟨rfl, rfl⟩
