/-! WALKS: the machine follows the functions, piece 7 of 7 -/
set_option maxHeartbeats 4000000 in
set_option maxRecDepth 20000 in
theorem t_X12_foretell {G : yb_G} {X : List (FieldType × Nat)} {a1 : Int32} {a2 : Int32} {s : yb_S} {out : (Int32 × yb_S)} (h : f_X12_foretell a1 a2 s = some out) : Ct G yX12_foretell cX12_foretell 3 (Option.some .int) (yb_rm 2) [.ref (yb_ad G 176), .int a1, .int a2] (yb_mk s X) (yb_qi X out.2 out.1) := by
  refine Ct.of (own := RX12) (ini := false) (vs := [some (.ref (yb_ad G 176)), some (.int a1), some (.int a2)]) ⟨rfl, by decide +kernel⟩ (fun h => by cases h) (Nat.le_of_ble_eq_true rfl) rfl ?_
  unfold f_X12_foretell at h
  refine n_iload_n (i := 1) dX12_foretell_0 rfl rfl ?_
  refine n_i2l dX12_foretell_1 ?_
  refine n_aload_n (i := 0) dX12_foretell_2 rfl rfl ?_
  refine p_geti fl_X12_275 (sh_176 _ _) rfl dX12_foretell_3 ?_
  refine n_i2l dX12_foretell_6 ?_
  refine n_ldc2 (200 : Int64) k_X12_270 dX12_foretell_7 ?_
  obtain ⟨q1, hq1, h⟩ := yb_bind h
  refine p_callSi (As := [.long (a1.toInt64), .long ((s.1 176 7).toInt64), .long (200 : Int64)]) (t_X12_in hq1) cs_X12_247 rfl rfl (Nat.le_of_ble_eq_true rfl) dX12_foretell_10 (yb_rok (Nat.le_of_ble_eq_true rfl) (by decide)) ⟨rfl, rfl⟩ ⟨Nat.le_refl _, Nat.le_refl _⟩ (fun k2 => ?_)
  refine n_if_eq 39 dX12_foretell_13 (by decide) (fun c3 => ?_) (fun c3 => ?_)
  · have h := yb_ifp c3 h
    refine n_iconst (-1 : Int32) dX12_foretell_39 ic_m1 ?_
    cases h
    exact n_iret dX12_foretell_40 rfl rfl (Nat.le_refl _) (Nat.le_refl _) ⟨rfl, rfl⟩
  · have h := yb_ifn c3 h
    refine n_iload_n (i := 2) dX12_foretell_16 rfl rfl ?_
    refine n_i2l dX12_foretell_17 ?_
    refine n_ldc2 (-100 : Int64) k_X12_576 dX12_foretell_18 ?_
    refine n_ldc2 (100 : Int64) k_X12_578 dX12_foretell_21 ?_
    obtain ⟨q4, hq4, h⟩ := yb_bind h
    refine p_callSi (As := [.long (a2.toInt64), .long (-100 : Int64), .long (100 : Int64)]) (t_X12_in hq4) cs_X12_247 rfl rfl (Nat.le_of_ble_eq_true rfl) dX12_foretell_24 (yb_rok (Nat.le_of_ble_eq_true rfl) (by decide)) ⟨rfl, rfl⟩ ⟨Nat.le_refl _, Nat.le_refl _⟩ (fun k5 => ?_)
    refine n_if_eq 39 dX12_foretell_27 (by decide) (fun c6 => ?_) (fun c6 => ?_)
    · have h := yb_ifp c6 h
      refine n_iconst (-1 : Int32) dX12_foretell_39 ic_m1 ?_
      cases h
      exact n_iret dX12_foretell_40 rfl rfl (Nat.le_refl _) (Nat.le_refl _) ⟨rfl, rfl⟩
    · have h := yb_ifn c6 h
      refine n_aload_n (i := 0) dX12_foretell_30 rfl rfl ?_
      refine p_geti fl_X12_580 (sh_176 _ _) rfl dX12_foretell_31 ?_
      refine n_bipush (40 : Int32) dX12_foretell_34 bp_40 ?_
      refine n_icmp_ne 41 dX12_foretell_36 (by decide) (fun c7 => ?_) (fun c7 => ?_)
      · have h := yb_ifn c7 h
        refine n_aload_n (i := 0) dX12_foretell_41 rfl rfl ?_
        refine p_getr fl_X12_238 (sh_176 _ _) rfl (rR_176_82 _ _) dX12_foretell_42 ?_
        refine n_aload_n (i := 0) dX12_foretell_45 rfl rfl ?_
        refine p_geti fl_X12_580 (sh_176 _ _) rfl dX12_foretell_46 ?_
        refine n_iload_n (i := 1) dX12_foretell_49 rfl rfl ?_
        obtain ⟨s8, hs8, h⟩ := yb_bind h
        refine p_iast hs8 (sh_601 _ _) dX12_foretell_50 ?_
        refine n_aload_n (i := 0) dX12_foretell_51 rfl rfl ?_
        refine p_getr fl_X12_241 (sh_176 _ _) rfl (rR_176_83 _ _) dX12_foretell_52 ?_
        refine n_aload_n (i := 0) dX12_foretell_55 rfl rfl ?_
        refine p_geti fl_X12_580 (sh_176 _ _) rfl dX12_foretell_56 ?_
        refine n_iload_n (i := 2) dX12_foretell_59 rfl rfl ?_
        obtain ⟨s9, hs9, h⟩ := yb_bind h
        refine p_iast hs9 (sh_602 _ _) dX12_foretell_60 ?_
        refine n_aload_n (i := 0) dX12_foretell_61 rfl rfl ?_
        refine n_dup dX12_foretell_62 rfl ?_
        refine p_geti fl_X12_580 (sh_176 _ _) rfl dX12_foretell_63 ?_
        refine n_iconst (1 : Int32) dX12_foretell_66 ic_1 ?_
        refine n_iadd dX12_foretell_67 ?_
        obtain ⟨s10, hs10, h⟩ := yb_bind h
        refine p_puti hs10 fp_X12_580 (sh_176 _ _) rfl rfl rfl dX12_foretell_68 ?_
        refine n_aload_n (i := 0) dX12_foretell_71 rfl rfl ?_
        refine p_geti fl_X12_580 (sh_176 _ _) rfl dX12_foretell_72 ?_
        cases h
        exact n_iret dX12_foretell_75 rfl rfl (Nat.le_refl _) (Nat.le_refl _) ⟨rfl, rfl⟩
      · have h := yb_ifp c7 h
        refine n_iconst (-1 : Int32) dX12_foretell_39 ic_m1 ?_
        cases h
        exact n_iret dX12_foretell_40 rfl rfl (Nat.le_refl _) (Nat.le_refl _) ⟨rfl, rfl⟩
set_option maxHeartbeats 4000000 in
set_option maxRecDepth 20000 in
theorem t_X12_isTown {G : yb_G} {X : List (FieldType × Nat)} {a1 : Int32} {s : yb_S} {out : Int32} (h : f_X12_isTown a1 s = some out) : Ct G yX12_isTown cX12_isTown 2 (Option.some .boolean) (yb_rm 2) [.ref (yb_ad G 176), .int a1] (yb_mk s X) (yb_qi X s out) := by
  refine Ct.of (own := RX12) (ini := false) (vs := [some (.ref (yb_ad G 176)), some (.int a1)]) ⟨rfl, by decide +kernel⟩ (fun h => by cases h) (Nat.le_of_ble_eq_true rfl) rfl ?_
  unfold f_X12_isTown at h
  refine n_iload_n (i := 1) dX12_isTown_0 rfl rfl ?_
  refine n_i2l dX12_isTown_1 ?_
  refine n_lconst (0 : Int64) dX12_isTown_2 rfl ?_
  refine n_aload_n (i := 0) dX12_isTown_3 rfl rfl ?_
  refine p_geti fl_X12_244 (sh_176 _ _) rfl dX12_isTown_4 ?_
  refine n_iconst (1 : Int32) dX12_isTown_7 ic_1 ?_
  refine n_isub dX12_isTown_8 ?_
  refine n_i2l dX12_isTown_9 ?_
  obtain ⟨q1, hq1, h⟩ := yb_bind h
  refine p_callSi (As := [.long (a1.toInt64), .long (0 : Int64), .long (((s.1 176 6) - (1 : Int32)).toInt64)]) (t_X12_in hq1) cs_X12_247 rfl rfl (Nat.le_of_ble_eq_true rfl) dX12_isTown_10 (yb_rok (Nat.le_of_ble_eq_true rfl) (by decide)) ⟨rfl, rfl⟩ ⟨Nat.le_refl _, Nat.le_refl _⟩ (fun k2 => ?_)
  cases h
  exact n_iret dX12_isTown_13 rfl (yb_okv_b k2) (Nat.le_refl _) (Nat.le_refl _) ⟨rfl, rfl⟩
set_option maxHeartbeats 4000000 in
set_option maxRecDepth 20000 in
theorem t_X12_full {G : yb_G} {X : List (FieldType × Nat)} {a1 : Int32} {a2 : Int32} {s : yb_S} {out : (Int32 × yb_S)} (h : f_X12_full a1 a2 s = some out) : Ct G yX12_full cX12_full 3 (Option.some .boolean) (yb_rm 3) [.ref (yb_ad G 176), .int a1, .int a2] (yb_mk s X) (yb_qi X out.2 out.1) := by
  refine Ct.of (own := RX12) (ini := false) (vs := [some (.ref (yb_ad G 176)), some (.int a1), some (.int a2)]) ⟨rfl, by decide +kernel⟩ (fun h => by cases h) (Nat.le_of_ble_eq_true rfl) rfl ?_
  unfold f_X12_full at h
  refine n_aload_n (i := 0) dX12_full_0 rfl rfl ?_
  refine n_iload_n (i := 1) dX12_full_1 rfl rfl ?_
  obtain ⟨q1, hq1, h⟩ := yb_bind h
  refine p_callVi (As := [.int a1]) (t_X12_isTown hq1) cv_X12_261 (sh_176 _ _) rfl rfl (Nat.le_of_ble_eq_true rfl) dX12_full_2 (yb_rok (Nat.le_of_ble_eq_true rfl) (by decide)) ⟨rfl, rfl⟩ ⟨Nat.le_refl _, Nat.le_refl _⟩ (fun k2 => ?_)
  refine n_if_eq 18 dX12_full_5 (by decide) (fun c3 => ?_) (fun c3 => ?_)
  · have h := yb_ifp c3 h
    refine n_iconst (0 : Int32) dX12_full_18 ic_0 ?_
    cases h
    exact n_iret dX12_full_19 rfl (by decide) (Nat.le_refl _) (Nat.le_refl _) ⟨rfl, rfl⟩
  · have h := yb_ifn c3 h
    refine n_aload_n (i := 0) dX12_full_8 rfl rfl ?_
    refine p_getr fl_X12_26 (sh_176 _ _) rfl (rR_176_5 _ _) dX12_full_9 ?_
    refine n_iload_n (i := 1) dX12_full_12 rfl rfl ?_
    obtain ⟨v4, hv4, h⟩ := yb_bind h
    refine p_zald hv4 (sh_182 _ _) dX12_full_13 ?_
    refine n_iload_n (i := 2) dX12_full_14 rfl rfl ?_
    refine n_icmp_ne 20 dX12_full_15 (by decide) (fun c5 => ?_) (fun c5 => ?_)
    · have h := yb_ifn c5 h
      refine n_aload_n (i := 0) dX12_full_20 rfl rfl ?_
      refine p_getr fl_X12_26 (sh_176 _ _) rfl (rR_176_5 _ _) dX12_full_21 ?_
      refine n_iload_n (i := 1) dX12_full_24 rfl rfl ?_
      refine n_iload_n (i := 2) dX12_full_25 rfl rfl ?_
      obtain ⟨s6, hs6, h⟩ := yb_bind h
      refine p_zast hs6 (sh_182 _ _) dX12_full_26 ?_
      refine n_iconst (1 : Int32) dX12_full_27 ic_1 ?_
      cases h
      exact n_iret dX12_full_28 rfl (by decide) (Nat.le_refl _) (Nat.le_refl _) ⟨rfl, rfl⟩
    · have h := yb_ifp c5 h
      refine n_iconst (0 : Int32) dX12_full_18 ic_0 ?_
      cases h
      exact n_iret dX12_full_19 rfl (by decide) (Nat.le_refl _) (Nat.le_refl _) ⟨rfl, rfl⟩
set_option maxHeartbeats 4000000 in
set_option maxRecDepth 20000 in
theorem tj_X12_go_41 {G : yb_G} {X : List (FieldType × Nat)} {s : yb_S} {out : (Int32 × yb_S)} (h : j_X12_go_41 s = some out) : Rn G RX12 cX12_go 3 (Option.some .int) false (yb_rm 9) (yb_qi X out.2 out.1) 0 0 41 [some (.ref (yb_ad G 176)), none, none] [] (yb_mk s X) := by
  unfold j_X12_go_41 at h
  refine n_aload_n (i := 0) dX12_go_41 rfl rfl ?_
  refine p_geti fl_X12_275 (sh_176 _ _) rfl dX12_go_42 ?_
  cases h
  exact n_iret dX12_go_45 rfl rfl (Nat.le_refl _) (Nat.le_refl _) ⟨rfl, rfl⟩
set_option maxHeartbeats 4000000 in
set_option maxRecDepth 20000 in
theorem t_l_X12_go_16 {G : yb_G} {X : List (FieldType × Nat)} {x1 : Int32} {out : (Int32 × yb_S)} : ∀ (k0 : Nat) (x2 : Int32) (s : yb_S), l_X12_go_16 x1 k0 x2 s = some out → Rn G RX12 cX12_go 3 (Option.some .int) false (yb_rm 9) (yb_qi X out.2 out.1) 0 0 16 [some (.ref (yb_ad G 176)), some (.int x1), some (.int x2)] [] (yb_mk s X) := by
  intro k0
  induction k0 with
  | zero => intro x2 s h; cases h
  | succ k0 ih =>
    intro x2 s h
    have h : f_X12_go_16 (fun x2 s => l_X12_go_16 x1 k0 x2 s) x1 x2 s = some out := h
    have hrc16 := ih
    unfold f_X12_go_16 at h
    refine n_iload_n (i := 2) dX12_go_16 rfl rfl ?_
    refine n_iload_n (i := 1) dX12_go_17 rfl rfl ?_
    refine n_icmp_ge 41 dX12_go_18 (by decide) (fun c4 => ?_) (fun c4 => ?_)
    · have h := yb_ifp c4 h
      exact p_jump (tj_X12_go_41 h) (And.intro rfl trivial)
    · have h := yb_ifn c4 h
      refine n_aload_n (i := 0) dX12_go_21 rfl rfl ?_
      refine p_geti fl_X12_275 (sh_176 _ _) rfl dX12_go_22 ?_
      refine n_sipush (200 : Int32) dX12_go_25 sp_200 ?_
      refine n_icmp_ge 41 dX12_go_28 (by decide) (fun c5 => ?_) (fun c5 => ?_)
      · have h := yb_ifp c5 h
        exact p_jump (tj_X12_go_41 h) (And.intro rfl trivial)
      · have h := yb_ifn c5 h
        refine n_aload_n (i := 0) dX12_go_31 rfl rfl ?_
        obtain ⟨q6, hq6, h⟩ := yb_bind h
        refine p_callVv (As := []) (t_X12_day hq6) cv_X12_537 (sh_176 _ _) rfl rfl (Nat.le_of_ble_eq_true rfl) dX12_go_32 (yb_rok (Nat.le_of_ble_eq_true rfl) (by decide)) ⟨rfl, rfl⟩ ⟨Nat.le_refl _, Nat.le_refl _⟩ (fun k7 => ?_)
        refine n_iinc (vs' := [some (.ref (yb_ad G 176)), some (.int x1), some (.int (x2 + (1 : Int32)))]) dX12_go_35 rfl (ii_1 _) (Nat.le_of_ble_eq_true rfl) rfl rfl ?_
        refine n_goto 16 dX12_go_38 (by decide) ?_
        exact p_jump (hrc16 (x2 + (1 : Int32)) q6 h) (And.intro rfl (And.intro rfl (And.intro rfl trivial)))
set_option maxHeartbeats 4000000 in
set_option maxRecDepth 20000 in
theorem tl_X12_go_16 {G : yb_G} {X : List (FieldType × Nat)} {x1 : Int32} {out : (Int32 × yb_S)} {x2 : Int32} {s : yb_S} (h : l_X12_go_16 x1 yb_N x2 s = some out) : Rn G RX12 cX12_go 3 (Option.some .int) false (yb_rm 9) (yb_qi X out.2 out.1) 0 0 16 [some (.ref (yb_ad G 176)), some (.int x1), some (.int x2)] [] (yb_mk s X) := t_l_X12_go_16 _ _ _ h
set_option maxHeartbeats 4000000 in
set_option maxRecDepth 20000 in
theorem t_X12_go {G : yb_G} {X : List (FieldType × Nat)} {a1 : Int32} {s : yb_S} {out : (Int32 × yb_S)} (h : f_X12_go a1 s = some out) : Ct G yX12_go cX12_go 3 (Option.some .int) (yb_rm 9) [.ref (yb_ad G 176), .int a1] (yb_mk s X) (yb_qi X out.2 out.1) := by
  refine Ct.of (own := RX12) (ini := false) (vs := [some (.ref (yb_ad G 176)), some (.int a1), none]) ⟨rfl, by decide +kernel⟩ (fun h => by cases h) (Nat.le_of_ble_eq_true rfl) rfl ?_
  unfold f_X12_go at h
  refine n_iload_n (i := 1) dX12_go_0 rfl rfl ?_
  refine n_i2l dX12_go_1 ?_
  refine n_lconst (0 : Int64) dX12_go_2 rfl ?_
  refine n_ldc2 (40 : Int64) k_X12_535 dX12_go_3 ?_
  obtain ⟨q1, hq1, h⟩ := yb_bind h
  refine p_callSi (As := [.long (a1.toInt64), .long (0 : Int64), .long (40 : Int64)]) (t_X12_in hq1) cs_X12_247 rfl rfl (Nat.le_of_ble_eq_true rfl) dX12_go_6 (yb_rok (Nat.le_of_ble_eq_true rfl) (by decide)) ⟨rfl, rfl⟩ ⟨Nat.le_refl _, Nat.le_refl _⟩ (fun k2 => ?_)
  refine n_if_ne 14 dX12_go_9 (by decide) (fun c3 => ?_) (fun c3 => ?_)
  · have h := yb_ifn c3 h
    refine n_iconst (0 : Int32) dX12_go_14 ic_0 ?_
    refine n_istore_n (i := 2) (vs' := [some (.ref (yb_ad G 176)), some (.int a1), some (.int (0 : Int32))]) dX12_go_15 rfl (Nat.le_of_ble_eq_true rfl) rfl rfl ?_
    exact p_jump (tl_X12_go_16 h) (And.intro rfl (And.intro rfl (And.intro rfl trivial)))
  · have h := yb_ifp c3 h
    refine n_iconst (-1 : Int32) dX12_go_12 ic_m1 ?_
    cases h
    exact n_iret dX12_go_13 rfl rfl (Nat.le_refl _) (Nat.le_refl _) ⟨rfl, rfl⟩
set_option maxHeartbeats 4000000 in
set_option maxRecDepth 20000 in
theorem tj_X12_heapSize_28 {G : yb_G} {X : List (FieldType × Nat)} {rc4 : (Int32 → Int32 → Option Int32)} {x1 : Int32} {x3 : Int32} {y0 : Int32} {y1 : Int32} {s : yb_S} {out : Int32} (hrc4 : ∀ (x2' : Int32) (x3' : Int32), rc4 x2' x3' = some out → Rn G RX12 cX12_heapSize 4 (Option.some .int) false (yb_rm 1) (yb_qi X s out) 0 0 4 [some (.ref (yb_ad G 176)), some (.int x1), some (.int x2'), some (.int x3')] [] (yb_mk s X)) (h : j_X12_heapSize_28 rc4 x1 x3 y0 y1 s = some out) : Rn G RX12 cX12_heapSize 4 (Option.some .int) false (yb_rm 1) (yb_qi X s out) 0 0 28 [some (.ref (yb_ad G 176)), some (.int x1), none, some (.int x3)] [.int y0, .int y1] (yb_mk s X) := by
  unfold j_X12_heapSize_28 at h
  refine n_iadd dX12_heapSize_28 ?_
  refine n_istore_n (i := 2) (vs' := [some (.ref (yb_ad G 176)), some (.int x1), some (.int (y1 + y0)), some (.int x3)]) dX12_heapSize_29 rfl (Nat.le_of_ble_eq_true rfl) rfl rfl ?_
  refine n_iinc (vs' := [some (.ref (yb_ad G 176)), some (.int x1), some (.int (y1 + y0)), some (.int (x3 + (1 : Int32)))]) dX12_heapSize_30 rfl (ii_1 _) (Nat.le_of_ble_eq_true rfl) rfl rfl ?_
  refine n_goto 4 dX12_heapSize_33 (by decide) ?_
  exact p_jump (hrc4 (y1 + y0) (x3 + (1 : Int32)) h) (And.intro rfl (And.intro rfl (And.intro rfl (And.intro rfl trivial))))
set_option maxHeartbeats 4000000 in
set_option maxRecDepth 20000 in
theorem t_l_X12_heapSize_4 {G : yb_G} {X : List (FieldType × Nat)} {x1 : Int32} {s : yb_S} {out : Int32} : ∀ (k0 : Nat) (x2 : Int32) (x3 : Int32), l_X12_heapSize_4 x1 s k0 x2 x3 = some out → Rn G RX12 cX12_heapSize 4 (Option.some .int) false (yb_rm 1) (yb_qi X s out) 0 0 4 [some (.ref (yb_ad G 176)), some (.int x1), some (.int x2), some (.int x3)] [] (yb_mk s X) := by
  intro k0
  induction k0 with
  | zero => intro x2 x3 h; cases h
  | succ k0 ih =>
    intro x2 x3 h
    have h : f_X12_heapSize_4 (fun x2 x3 => l_X12_heapSize_4 x1 s k0 x2 x3) x1 s x2 x3 = some out := h
    have hrc4 := ih
    unfold f_X12_heapSize_4 at h
    refine n_iload_n (i := 3) dX12_heapSize_4 rfl rfl ?_
    refine n_aload_n (i := 0) dX12_heapSize_5 rfl rfl ?_
    refine p_geti fl_X12_290 (sh_176 _ _) rfl dX12_heapSize_6 ?_
    refine n_icmp_ge 36 dX12_heapSize_9 (by decide) (fun c1 => ?_) (fun c1 => ?_)
    · have h := yb_ifp c1 h
      refine n_iload_n (i := 2) dX12_heapSize_36 rfl rfl ?_
      cases h
      exact n_iret dX12_heapSize_37 rfl rfl (Nat.le_refl _) (Nat.le_refl _) ⟨rfl, rfl⟩
    · have h := yb_ifn c1 h
      refine n_iload_n (i := 2) dX12_heapSize_12 rfl rfl ?_
      refine n_aload_n (i := 0) dX12_heapSize_13 rfl rfl ?_
      refine p_getr fl_X12_104 (sh_176 _ _) rfl (rR_176_35 _ _) dX12_heapSize_14 ?_
      refine n_iload_n (i := 3) dX12_heapSize_17 rfl rfl ?_
      obtain ⟨v2, hv2, h⟩ := yb_bind h
      refine p_iald hv2 (sh_213 _ _) dX12_heapSize_18 ?_
      refine n_iload_n (i := 1) dX12_heapSize_19 rfl rfl ?_
      refine n_icmp_ne 27 dX12_heapSize_20 (by decide) (fun c3 => ?_) (fun c3 => ?_)
      · have h := yb_ifn c3 h
        refine n_iconst (0 : Int32) dX12_heapSize_27 ic_0 ?_
        exact p_jump (tj_X12_heapSize_28 hrc4 h) (And.intro rfl (And.intro rfl (And.intro rfl trivial)))
      · have h := yb_ifp c3 h
        refine n_iconst (1 : Int32) dX12_heapSize_23 ic_1 ?_
        refine n_goto 28 dX12_heapSize_24 (by decide) ?_
        exact p_jump (tj_X12_heapSize_28 hrc4 h) (And.intro rfl (And.intro rfl (And.intro rfl trivial)))
set_option maxHeartbeats 4000000 in
set_option maxRecDepth 20000 in
theorem tl_X12_heapSize_4 {G : yb_G} {X : List (FieldType × Nat)} {x1 : Int32} {s : yb_S} {out : Int32} {x2 : Int32} {x3 : Int32} (h : l_X12_heapSize_4 x1 s yb_N x2 x3 = some out) : Rn G RX12 cX12_heapSize 4 (Option.some .int) false (yb_rm 1) (yb_qi X s out) 0 0 4 [some (.ref (yb_ad G 176)), some (.int x1), some (.int x2), some (.int x3)] [] (yb_mk s X) := t_l_X12_heapSize_4 _ _ _ h
set_option maxHeartbeats 4000000 in
set_option maxRecDepth 20000 in
theorem t_X12_heapSize {G : yb_G} {X : List (FieldType × Nat)} {a1 : Int32} {s : yb_S} {out : Int32} (h : f_X12_heapSize a1 s = some out) : Ct G yX12_heapSize cX12_heapSize 4 (Option.some .int) (yb_rm 1) [.ref (yb_ad G 176), .int a1] (yb_mk s X) (yb_qi X s out) := by
  refine Ct.of (own := RX12) (ini := false) (vs := [some (.ref (yb_ad G 176)), some (.int a1), none, none]) ⟨rfl, by decide +kernel⟩ (fun h => by cases h) (Nat.le_of_ble_eq_true rfl) rfl ?_
  unfold f_X12_heapSize at h
  refine n_iconst (0 : Int32) dX12_heapSize_0 ic_0 ?_
  refine n_istore_n (i := 2) (vs' := [some (.ref (yb_ad G 176)), some (.int a1), some (.int (0 : Int32)), none]) dX12_heapSize_1 rfl (Nat.le_of_ble_eq_true rfl) rfl rfl ?_
  refine n_iconst (0 : Int32) dX12_heapSize_2 ic_0 ?_
  refine n_istore_n (i := 3) (vs' := [some (.ref (yb_ad G 176)), some (.int a1), some (.int (0 : Int32)), some (.int (0 : Int32))]) dX12_heapSize_3 rfl (Nat.le_of_ble_eq_true rfl) rfl rfl ?_
  exact p_jump (tl_X12_heapSize_4 h) (And.intro rfl (And.intro rfl (And.intro rfl (And.intro rfl trivial))))
set_option maxHeartbeats 4000000 in
set_option maxRecDepth 20000 in
theorem t_X12_home {G : yb_G} {X : List (FieldType × Nat)} {a1 : Int32} {a2 : Int32} {a3 : Int32} {s : yb_S} {out : (Int32 × yb_S)} (h : f_X12_home a1 a2 a3 s = some out) : Ct G yX12_home cX12_home 4 (Option.some .int) (yb_rm 3) [.ref (yb_ad G 176), .int a1, .int a2, .int a3] (yb_mk s X) (yb_qi X out.2 out.1) := by
  refine Ct.of (own := RX12) (ini := false) (vs := [some (.ref (yb_ad G 176)), some (.int a1), some (.int a2), some (.int a3)]) ⟨rfl, by decide +kernel⟩ (fun h => by cases h) (Nat.le_of_ble_eq_true rfl) rfl ?_
  unfold f_X12_home at h
  refine n_aload_n (i := 0) dX12_home_0 rfl rfl ?_
  refine n_iload_n (i := 1) dX12_home_1 rfl rfl ?_
  obtain ⟨q1, hq1, h⟩ := yb_bind h
  refine p_callVi (As := [.int a1]) (t_X12_isTown hq1) cv_X12_261 (sh_176 _ _) rfl rfl (Nat.le_of_ble_eq_true rfl) dX12_home_2 (yb_rok (Nat.le_of_ble_eq_true rfl) (by decide)) ⟨rfl, rfl⟩ ⟨Nat.le_refl _, Nat.le_refl _⟩ (fun k2 => ?_)
  refine n_if_eq 62 dX12_home_5 (by decide) (fun c3 => ?_) (fun c3 => ?_)
  · have h := yb_ifp c3 h
    refine n_iconst (-1 : Int32) dX12_home_62 ic_m1 ?_
    cases h
    exact n_iret dX12_home_63 rfl rfl (Nat.le_refl _) (Nat.le_refl _) ⟨rfl, rfl⟩
  · have h := yb_ifn c3 h
    refine n_iload_n (i := 2) dX12_home_8 rfl rfl ?_
    refine n_if_lt 62 dX12_home_9 (by decide) (fun c4 => ?_) (fun c4 => ?_)
    · have h := yb_ifp c4 h
      refine n_iconst (-1 : Int32) dX12_home_62 ic_m1 ?_
      cases h
      exact n_iret dX12_home_63 rfl rfl (Nat.le_refl _) (Nat.le_refl _) ⟨rfl, rfl⟩
    · have h := yb_ifn c4 h
      refine n_iload_n (i := 2) dX12_home_12 rfl rfl ?_
      refine n_bipush (100 : Int32) dX12_home_13 bp_100 ?_
      refine n_idiv dX12_home_15 (by decide) ?_
      refine n_i2l dX12_home_16 ?_
      refine n_lconst (1 : Int64) dX12_home_17 rfl ?_
      refine n_ldc2 (9 : Int64) k_X12_265 dX12_home_18 ?_
      obtain ⟨q5, hq5, h⟩ := yb_bind h
      refine p_callSi (As := [.long ((a2 / (100 : Int32)).toInt64), .long (1 : Int64), .long (9 : Int64)]) (t_X12_in hq5) cs_X12_247 rfl rfl (Nat.le_of_ble_eq_true rfl) dX12_home_21 (yb_rok (Nat.le_of_ble_eq_true rfl) (by decide)) ⟨rfl, rfl⟩ ⟨Nat.le_refl _, Nat.le_refl _⟩ (fun k6 => ?_)
      refine n_if_eq 62 dX12_home_24 (by decide) (fun c7 => ?_) (fun c7 => ?_)
      · have h := yb_ifp c7 h
        refine n_iconst (-1 : Int32) dX12_home_62 ic_m1 ?_
        cases h
        exact n_iret dX12_home_63 rfl rfl (Nat.le_refl _) (Nat.le_refl _) ⟨rfl, rfl⟩
      · have h := yb_ifn c7 h
        refine n_iload_n (i := 2) dX12_home_27 rfl rfl ?_
        refine n_bipush (10 : Int32) dX12_home_28 bp_10 ?_
        refine n_idiv dX12_home_30 (by decide) ?_
        refine n_bipush (10 : Int32) dX12_home_31 bp_10 ?_
        refine p_irem (by decide) dX12_home_33 ?_
        refine n_iconst (1 : Int32) dX12_home_34 ic_1 ?_
        refine n_icmp_gt 62 dX12_home_35 (by decide) (fun c8 => ?_) (fun c8 => ?_)
        · have h := yb_ifp c8 h
          refine n_iconst (-1 : Int32) dX12_home_62 ic_m1 ?_
          cases h
          exact n_iret dX12_home_63 rfl rfl (Nat.le_refl _) (Nat.le_refl _) ⟨rfl, rfl⟩
        · have h := yb_ifn c8 h
          refine n_iload_n (i := 2) dX12_home_38 rfl rfl ?_
          refine n_bipush (10 : Int32) dX12_home_39 bp_10 ?_
          refine p_irem (by decide) dX12_home_41 ?_
          refine n_iconst (4 : Int32) dX12_home_42 ic_4 ?_
          refine n_icmp_gt 62 dX12_home_43 (by decide) (fun c9 => ?_) (fun c9 => ?_)
          · have h := yb_ifp c9 h
            refine n_iconst (-1 : Int32) dX12_home_62 ic_m1 ?_
            cases h
            exact n_iret dX12_home_63 rfl rfl (Nat.le_refl _) (Nat.le_refl _) ⟨rfl, rfl⟩
          · have h := yb_ifn c9 h
            refine n_iload_n (i := 3) dX12_home_46 rfl rfl ?_
            obtain ⟨q10, hq10, h⟩ := yb_bind h
            refine p_callSi (As := [.int a3]) (t_X12_areDays hq10) cs_X12_267 rfl rfl (Nat.le_of_ble_eq_true rfl) dX12_home_47 (yb_rok (Nat.le_of_ble_eq_true rfl) (by decide)) ⟨rfl, rfl⟩ ⟨Nat.le_refl _, Nat.le_refl _⟩ (fun k11 => ?_)
            refine n_if_eq 62 dX12_home_50 (by decide) (fun c12 => ?_) (fun c12 => ?_)
            · have h := yb_ifp c12 h
              refine n_iconst (-1 : Int32) dX12_home_62 ic_m1 ?_
              cases h
              exact n_iret dX12_home_63 rfl rfl (Nat.le_refl _) (Nat.le_refl _) ⟨rfl, rfl⟩
            · have h := yb_ifn c12 h
              refine n_aload_n (i := 0) dX12_home_53 rfl rfl ?_
              refine p_geti fl_X12_251 (sh_176 _ _) rfl dX12_home_54 ?_
              refine n_bipush (24 : Int32) dX12_home_57 bp_24 ?_
              refine n_icmp_ne 64 dX12_home_59 (by decide) (fun c13 => ?_) (fun c13 => ?_)
              · have h := yb_ifn c13 h
                refine n_aload_n (i := 0) dX12_home_64 rfl rfl ?_
                refine p_getr fl_X12_30 (sh_176 _ _) rfl (rR_176_9 _ _) dX12_home_65 ?_
                refine n_aload_n (i := 0) dX12_home_68 rfl rfl ?_
                refine p_geti fl_X12_251 (sh_176 _ _) rfl dX12_home_69 ?_
                refine n_iload_n (i := 1) dX12_home_72 rfl rfl ?_
                obtain ⟨s14, hs14, h⟩ := yb_bind h
                refine p_iast hs14 (sh_183 _ _) dX12_home_73 ?_
                refine n_aload_n (i := 0) dX12_home_74 rfl rfl ?_
                refine p_getr fl_X12_33 (sh_176 _ _) rfl (rR_176_10 _ _) dX12_home_75 ?_
                refine n_aload_n (i := 0) dX12_home_78 rfl rfl ?_
                refine p_geti fl_X12_251 (sh_176 _ _) rfl dX12_home_79 ?_
                refine n_iload_n (i := 2) dX12_home_82 rfl rfl ?_
                refine n_bipush (100 : Int32) dX12_home_83 bp_100 ?_
                refine n_idiv dX12_home_85 (by decide) ?_
                obtain ⟨s15, hs15, h⟩ := yb_bind h
                refine p_iast hs15 (sh_184 _ _) dX12_home_86 ?_
                refine n_aload_n (i := 0) dX12_home_87 rfl rfl ?_
                refine p_getr fl_X12_36 (sh_176 _ _) rfl (rR_176_11 _ _) dX12_home_88 ?_
                refine n_aload_n (i := 0) dX12_home_91 rfl rfl ?_
                refine p_geti fl_X12_251 (sh_176 _ _) rfl dX12_home_92 ?_
                refine n_iload_n (i := 2) dX12_home_95 rfl rfl ?_
                refine n_bipush (10 : Int32) dX12_home_96 bp_10 ?_
                refine n_idiv dX12_home_98 (by decide) ?_
                refine n_bipush (10 : Int32) dX12_home_99 bp_10 ?_
                refine p_irem (by decide) dX12_home_101 ?_
                obtain ⟨s16, hs16, h⟩ := yb_bind h
                refine p_iast hs16 (sh_185 _ _) dX12_home_102 ?_
                refine n_aload_n (i := 0) dX12_home_103 rfl rfl ?_
                refine p_getr fl_X12_39 (sh_176 _ _) rfl (rR_176_12 _ _) dX12_home_104 ?_
                refine n_aload_n (i := 0) dX12_home_107 rfl rfl ?_
                refine p_geti fl_X12_251 (sh_176 _ _) rfl dX12_home_108 ?_
                refine n_iload_n (i := 2) dX12_home_111 rfl rfl ?_
                refine n_bipush (10 : Int32) dX12_home_112 bp_10 ?_
                refine p_irem (by decide) dX12_home_114 ?_
                obtain ⟨s17, hs17, h⟩ := yb_bind h
                refine p_iast hs17 (sh_186 _ _) dX12_home_115 ?_
                refine n_aload_n (i := 0) dX12_home_116 rfl rfl ?_
                refine p_getr fl_X12_42 (sh_176 _ _) rfl (rR_176_13 _ _) dX12_home_117 ?_
                refine n_aload_n (i := 0) dX12_home_120 rfl rfl ?_
                refine p_geti fl_X12_251 (sh_176 _ _) rfl dX12_home_121 ?_
                refine n_iload_n (i := 3) dX12_home_124 rfl rfl ?_
                refine n_sipush (1000 : Int32) dX12_home_125 sp_1000 ?_
                refine n_idiv dX12_home_128 (by decide) ?_
                obtain ⟨s18, hs18, h⟩ := yb_bind h
                refine p_iast hs18 (sh_187 _ _) dX12_home_129 ?_
                refine n_aload_n (i := 0) dX12_home_130 rfl rfl ?_
                refine p_getr fl_X12_45 (sh_176 _ _) rfl (rR_176_14 _ _) dX12_home_131 ?_
                refine n_aload_n (i := 0) dX12_home_134 rfl rfl ?_
                refine p_geti fl_X12_251 (sh_176 _ _) rfl dX12_home_135 ?_
                refine n_iload_n (i := 3) dX12_home_138 rfl rfl ?_
                refine n_sipush (1000 : Int32) dX12_home_139 sp_1000 ?_
                refine p_irem (by decide) dX12_home_142 ?_
                obtain ⟨s19, hs19, h⟩ := yb_bind h
                refine p_iast hs19 (sh_188 _ _) dX12_home_143 ?_
                refine n_aload_n (i := 0) dX12_home_144 rfl rfl ?_
                refine n_dup dX12_home_145 rfl ?_
                refine p_geti fl_X12_251 (sh_176 _ _) rfl dX12_home_146 ?_
                refine n_iconst (1 : Int32) dX12_home_149 ic_1 ?_
                refine n_iadd dX12_home_150 ?_
                obtain ⟨s20, hs20, h⟩ := yb_bind h
                refine p_puti hs20 fp_X12_251 (sh_176 _ _) rfl rfl rfl dX12_home_151 ?_
                refine n_aload_n (i := 0) dX12_home_154 rfl rfl ?_
                refine p_geti fl_X12_251 (sh_176 _ _) rfl dX12_home_155 ?_
                refine n_iconst (1 : Int32) dX12_home_158 ic_1 ?_
                refine n_isub dX12_home_159 ?_
                cases h
                exact n_iret dX12_home_160 rfl rfl (Nat.le_refl _) (Nat.le_refl _) ⟨rfl, rfl⟩
              · have h := yb_ifp c13 h
                refine n_iconst (-1 : Int32) dX12_home_62 ic_m1 ?_
                cases h
                exact n_iret dX12_home_63 rfl rfl (Nat.le_refl _) (Nat.le_refl _) ⟨rfl, rfl⟩
set_option maxHeartbeats 4000000 in
set_option maxRecDepth 20000 in
theorem t_X12_is {G : yb_G} {X : List (FieldType × Nat)} {a1 : Int32} {a2 : Int32} {s : yb_S} {out : (Int32 × yb_S)} (h : f_X12_is a1 a2 s = some out) : Ct G yX12_is cX12_is 3 (Option.some .int) (yb_rm 6) [.ref (yb_ad G 176), .int a1, .int a2] (yb_mk s X) (yb_qi X out.2 out.1) := by
  refine Ct.of (own := RX12) (ini := false) (vs := [some (.ref (yb_ad G 176)), some (.int a1), some (.int a2)]) ⟨rfl, by decide +kernel⟩ (fun h => by cases h) (Nat.le_of_ble_eq_true rfl) rfl ?_
  unfold f_X12_is at h
  refine n_aload_n (i := 0) dX12_is_0 rfl rfl ?_
  refine n_iload_n (i := 1) dX12_is_1 rfl rfl ?_
  obtain ⟨q1, hq1, h⟩ := yb_bind h
  refine p_callVi (As := [.int a1]) (t_X12_isTown hq1) cv_X12_261 (sh_176 _ _) rfl rfl (Nat.le_of_ble_eq_true rfl) dX12_is_2 (yb_rok (Nat.le_of_ble_eq_true rfl) (by decide)) ⟨rfl, rfl⟩ ⟨Nat.le_refl _, Nat.le_refl _⟩ (fun k2 => ?_)
  refine n_if_ne 10 dX12_is_5 (by decide) (fun c3 => ?_) (fun c3 => ?_)
  · have h := yb_ifn c3 h
    refine n_iload_n (i := 2) dX12_is_10 rfl rfl ?_
    by_cases c4 : a2 = (0 : Int32)
    · have h := yb_ifp c4 h
      refine n_tableIn (off := 37) 48 dX12_is_11 (by rw [c4]; decide) (by rw [c4]; decide) (by rw [c4]; decide) (by decide) ?_
      refine n_aload_n (i := 0) dX12_is_48 rfl rfl ?_
      refine p_getr fl_X12_9 (sh_176 _ _) rfl (rR_176_0 _ _) dX12_is_49 ?_
      refine n_iload_n (i := 1) dX12_is_52 rfl rfl ?_
      obtain ⟨v10, hv10, h⟩ := yb_bind h
      refine p_iald hv10 (sh_177 _ _) dX12_is_53 ?_
      cases h
      exact n_iret dX12_is_54 rfl rfl (Nat.le_refl _) (Nat.le_refl _) ⟨rfl, rfl⟩
    · have h := yb_ifn c4 h
      by_cases c5 : a2 = (1 : Int32)
      · have h := yb_ifp c5 h
        refine n_tableIn (off := 44) 55 dX12_is_11 (by rw [c5]; decide) (by rw [c5]; decide) (by rw [c5]; decide) (by decide) ?_
        refine n_aload_n (i := 0) dX12_is_55 rfl rfl ?_
        refine n_iload_n (i := 1) dX12_is_56 rfl rfl ?_
        obtain ⟨q11, hq11, h⟩ := yb_bind h
        refine p_callVi (As := [.int a1]) (t_X12_headsIn hq11) cv_X12_488 (sh_176 _ _) rfl rfl (Nat.le_of_ble_eq_true rfl) dX12_is_57 (yb_rok (Nat.le_of_ble_eq_true rfl) (by decide)) ⟨rfl, rfl⟩ ⟨Nat.le_refl _, Nat.le_refl _⟩ (fun k12 => ?_)
        cases h
        exact n_iret dX12_is_60 rfl rfl (Nat.le_refl _) (Nat.le_refl _) ⟨rfl, rfl⟩
      · have h := yb_ifn c5 h
        by_cases c6 : a2 = (2 : Int32)
        · have h := yb_ifp c6 h
          refine n_tableIn (off := 50) 61 dX12_is_11 (by rw [c6]; decide) (by rw [c6]; decide) (by rw [c6]; decide) (by decide) ?_
          refine n_aload_n (i := 0) dX12_is_61 rfl rfl ?_
          refine p_getr fl_X12_16 (sh_176 _ _) rfl (rR_176_2 _ _) dX12_is_62 ?_
          refine n_iload_n (i := 1) dX12_is_65 rfl rfl ?_
          obtain ⟨v13, hv13, h⟩ := yb_bind h
          refine p_iald hv13 (sh_179 _ _) dX12_is_66 ?_
          refine n_aload_n (i := 0) dX12_is_67 rfl rfl ?_
          refine n_iload_n (i := 1) dX12_is_68 rfl rfl ?_
          refine n_iconst (-1 : Int32) dX12_is_69 ic_m1 ?_
          obtain ⟨q14, hq14, h⟩ := yb_bind h
          refine p_callVi (As := [.int a1, .int (-1 : Int32)]) (t_X12_pupilsIn hq14) cv_X12_473 (sh_176 _ _) rfl rfl (Nat.le_of_ble_eq_true rfl) dX12_is_70 (yb_rok (Nat.le_of_ble_eq_true rfl) (by decide)) ⟨rfl, rfl⟩ ⟨Nat.le_refl _, Nat.le_refl _⟩ (fun k15 => ?_)
          refine n_isub dX12_is_73 ?_
          cases h
          exact n_iret dX12_is_74 rfl rfl (Nat.le_refl _) (Nat.le_refl _) ⟨rfl, rfl⟩
        · have h := yb_ifn c6 h
          by_cases c7 : a2 = (3 : Int32)
          · have h := yb_ifp c7 h
            refine n_tableIn (off := 64) 75 dX12_is_11 (by rw [c7]; decide) (by rw [c7]; decide) (by rw [c7]; decide) (by decide) ?_
            refine n_aload_n (i := 0) dX12_is_75 rfl rfl ?_
            refine p_getr fl_X12_22 (sh_176 _ _) rfl (rR_176_4 _ _) dX12_is_76 ?_
            refine n_iload_n (i := 1) dX12_is_79 rfl rfl ?_
            obtain ⟨v16, hv16, h⟩ := yb_bind h
            refine p_lald hv16 (sh_181 _ _) dX12_is_80 ?_
            refine n_ldc2 (2000000000 : Int64) k_X12_592 dX12_is_81 ?_
            refine n_lcmp dX12_is_84 ?_
            refine n_if_le 94 dX12_is_85 (by decide) (fun c17 => ?_) (fun c17 => ?_)
            · have h := yb_ifp c17 h
              refine n_aload_n (i := 0) dX12_is_94 rfl rfl ?_
              refine p_getr fl_X12_22 (sh_176 _ _) rfl (rR_176_4 _ _) dX12_is_95 ?_
              refine n_iload_n (i := 1) dX12_is_98 rfl rfl ?_
              obtain ⟨v18, hv18, h⟩ := yb_bind h
              refine p_lald hv18 (sh_181 _ _) dX12_is_99 ?_
              refine n_l2i dX12_is_100 ?_
              cases h
              exact n_iret dX12_is_101 rfl rfl (Nat.le_refl _) (Nat.le_refl _) ⟨rfl, rfl⟩
            · have h := yb_ifn c17 h
              refine n_ldcw (2000000000 : Int32) k_X12_594 dX12_is_88 ?_
              refine n_goto 101 dX12_is_91 (by decide) ?_
              cases h
              exact n_iret dX12_is_101 rfl rfl (Nat.le_refl _) (Nat.le_refl _) ⟨rfl, rfl⟩
          · have h := yb_ifn c7 h
            by_cases c8 : a2 = (4 : Int32)
            · have h := yb_ifp c8 h
              refine n_tableIn (off := 91) 102 dX12_is_11 (by rw [c8]; decide) (by rw [c8]; decide) (by rw [c8]; decide) (by decide) ?_
              refine n_aload_n (i := 0) dX12_is_102 rfl rfl ?_
              refine p_getr fl_X12_26 (sh_176 _ _) rfl (rR_176_5 _ _) dX12_is_103 ?_
              refine n_iload_n (i := 1) dX12_is_106 rfl rfl ?_
              obtain ⟨v19, hv19, h⟩ := yb_bind h
              refine p_zald hv19 (sh_182 _ _) dX12_is_107 ?_
              refine n_if_eq 115 dX12_is_108 (by decide) (fun c20 => ?_) (fun c20 => ?_)
              · have h := yb_ifp c20 h
                refine n_iconst (0 : Int32) dX12_is_115 ic_0 ?_
                cases h
                exact n_iret dX12_is_116 rfl rfl (Nat.le_refl _) (Nat.le_refl _) ⟨rfl, rfl⟩
              · have h := yb_ifn c20 h
                refine n_iconst (1 : Int32) dX12_is_111 ic_1 ?_
                refine n_goto 116 dX12_is_112 (by decide) ?_
                cases h
                exact n_iret dX12_is_116 rfl rfl (Nat.le_refl _) (Nat.le_refl _) ⟨rfl, rfl⟩
            · have h := yb_ifn c8 h
              by_cases c9 : a2 = (5 : Int32)
              · have h := yb_ifp c9 h
                refine n_tableIn (off := 106) 117 dX12_is_11 (by rw [c9]; decide) (by rw [c9]; decide) (by rw [c9]; decide) (by decide) ?_
                refine n_aload_n (i := 0) dX12_is_117 rfl rfl ?_
                refine n_iload_n (i := 1) dX12_is_118 rfl rfl ?_
                obtain ⟨q21, hq21, h⟩ := yb_bind h
                refine p_callVi (As := [.int a1]) (t_X12_lackOf hq21) cv_X12_494 (sh_176 _ _) rfl rfl (Nat.le_of_ble_eq_true rfl) dX12_is_119 (yb_rok (Nat.le_of_ble_eq_true rfl) (by decide)) ⟨rfl, rfl⟩ ⟨Nat.le_refl _, Nat.le_refl _⟩ (fun k22 => ?_)
                refine n_if_ge 129 dX12_is_122 (by decide) (fun c23 => ?_) (fun c23 => ?_)
                · have h := yb_ifp c23 h
                  refine n_aload_n (i := 0) dX12_is_129 rfl rfl ?_
                  refine n_iload_n (i := 1) dX12_is_130 rfl rfl ?_
                  obtain ⟨q24, hq24, h⟩ := yb_bind h
                  refine p_callVi (As := [.int a1]) (t_X12_lackOf hq24) cv_X12_494 (sh_176 _ _) rfl rfl (Nat.le_of_ble_eq_true rfl) dX12_is_131 (yb_rok (Nat.le_of_ble_eq_true rfl) (by decide)) ⟨rfl, rfl⟩ ⟨Nat.le_refl _, Nat.le_refl _⟩ (fun k25 => ?_)
                  cases h
                  exact n_iret dX12_is_134 rfl rfl (Nat.le_refl _) (Nat.le_refl _) ⟨rfl, rfl⟩
                · have h := yb_ifn c23 h
                  refine n_iconst (0 : Int32) dX12_is_125 ic_0 ?_
                  refine n_goto 134 dX12_is_126 (by decide) ?_
                  cases h
                  exact n_iret dX12_is_134 rfl rfl (Nat.le_refl _) (Nat.le_refl _) ⟨rfl, rfl⟩
              · have h := yb_ifn c9 h
                refine n_tableOut 135 dX12_is_11 (by have z0 := lv_neT c4 (a := 0) (by decide); have z1 := lv_neT c5 (a := 1) (by decide); have z2 := lv_neT c6 (a := 2) (by decide); have z3 := lv_neT c7 (a := 3) (by decide); have z4 := lv_neT c8 (a := 4) (by decide); have z5 := lv_neT c9 (a := 5) (by decide); omega) (by decide) ?_
                refine n_iconst (-1 : Int32) dX12_is_135 ic_m1 ?_
                cases h
                exact n_iret dX12_is_136 rfl rfl (Nat.le_refl _) (Nat.le_refl _) ⟨rfl, rfl⟩
  · have h := yb_ifp c3 h
    refine n_iconst (-1 : Int32) dX12_is_8 ic_m1 ?_
    cases h
    exact n_iret dX12_is_9 rfl rfl (Nat.le_refl _) (Nat.le_refl _) ⟨rfl, rfl⟩
set_option maxHeartbeats 4000000 in
set_option maxRecDepth 20000 in
theorem t_X12_isMatch {G : yb_G} {X : List (FieldType × Nat)} {a1 : Int32} {a2 : Int32} {s : yb_S} {out : Int32} (h : f_X12_isMatch a1 a2 s = some out) : Ct G yX12_isMatch cX12_isMatch 3 (Option.some .boolean) (yb_rm 4) [.ref (yb_ad G 176), .int a1, .int a2] (yb_mk s X) (yb_qi X s out) := by
  refine Ct.of (own := RX12) (ini := false) (vs := [some (.ref (yb_ad G 176)), some (.int a1), some (.int a2)]) ⟨rfl, by decide +kernel⟩ (fun h => by cases h) (Nat.le_of_ble_eq_true rfl) rfl ?_
  unfold f_X12_isMatch at h
  refine n_aload_n (i := 0) dX12_isMatch_0 rfl rfl ?_
  refine p_getr fl_X12_86 (sh_176 _ _) rfl (rR_176_29 _ _) dX12_isMatch_1 ?_
  refine n_iload_n (i := 2) dX12_isMatch_4 rfl rfl ?_
  obtain ⟨v1, hv1, h⟩ := yb_bind h
  refine p_iald hv1 (sh_207 _ _) dX12_isMatch_5 ?_
  refine n_aload_n (i := 0) dX12_isMatch_6 rfl rfl ?_
  refine p_getr fl_X12_86 (sh_176 _ _) rfl (rR_176_29 _ _) dX12_isMatch_7 ?_
  refine n_iload_n (i := 1) dX12_isMatch_10 rfl rfl ?_
  obtain ⟨v2, hv2, h⟩ := yb_bind h
  refine p_iald hv2 (sh_207 _ _) dX12_isMatch_11 ?_
  refine n_icmp_eq 38 dX12_isMatch_12 (by decide) (fun c3 => ?_) (fun c3 => ?_)
  · have h := yb_ifp c3 h
    refine n_iconst (0 : Int32) dX12_isMatch_38 ic_0 ?_
    cases h
    exact n_iret dX12_isMatch_39 rfl (by decide) (Nat.le_refl _) (Nat.le_refl _) ⟨rfl, rfl⟩
  · have h := yb_ifn c3 h
    refine n_aload_n (i := 0) dX12_isMatch_15 rfl rfl ?_
    refine n_iload_n (i := 2) dX12_isMatch_16 rfl rfl ?_
    refine n_iload_n (i := 1) dX12_isMatch_17 rfl rfl ?_
    obtain ⟨q4, hq4, h⟩ := yb_bind h
    refine p_callVi (As := [.int a2, .int a1]) (t_X12_areBarred hq4) cv_X12_310 (sh_176 _ _) rfl rfl (Nat.le_of_ble_eq_true rfl) dX12_isMatch_18 (yb_rok (Nat.le_of_ble_eq_true rfl) (by decide)) ⟨rfl, rfl⟩ ⟨Nat.le_refl _, Nat.le_refl _⟩ (fun k5 => ?_)
    refine n_if_ne 38 dX12_isMatch_21 (by decide) (fun c6 => ?_) (fun c6 => ?_)
    · have h := yb_ifn c6 h
      refine n_iconst (0 : Int32) dX12_isMatch_38 ic_0 ?_
      cases h
      exact n_iret dX12_isMatch_39 rfl (by decide) (Nat.le_refl _) (Nat.le_refl _) ⟨rfl, rfl⟩
    · have h := yb_ifp c6 h
      refine n_aload_n (i := 0) dX12_isMatch_24 rfl rfl ?_
      refine n_iload_n (i := 1) dX12_isMatch_25 rfl rfl ?_
      refine n_iload_n (i := 2) dX12_isMatch_26 rfl rfl ?_
      obtain ⟨q7, hq7, h⟩ := yb_bind h
      refine p_callVi (As := [.int a1, .int a2]) (t_X12_pointsOf hq7) cv_X12_315 (sh_176 _ _) rfl rfl (Nat.le_of_ble_eq_true rfl) dX12_isMatch_27 (yb_rok (Nat.le_of_ble_eq_true rfl) (by decide)) ⟨rfl, rfl⟩ ⟨Nat.le_refl _, Nat.le_refl _⟩ (fun k8 => ?_)
      refine n_iconst (4 : Int32) dX12_isMatch_30 ic_4 ?_
      refine n_icmp_lt 38 dX12_isMatch_31 (by decide) (fun c9 => ?_) (fun c9 => ?_)
      · have h := yb_ifp c9 h
        refine n_iconst (0 : Int32) dX12_isMatch_38 ic_0 ?_
        cases h
        exact n_iret dX12_isMatch_39 rfl (by decide) (Nat.le_refl _) (Nat.le_refl _) ⟨rfl, rfl⟩
      · have h := yb_ifn c9 h
        refine n_iconst (1 : Int32) dX12_isMatch_34 ic_1 ?_
        refine n_goto 39 dX12_isMatch_35 (by decide) ?_
        cases h
        exact n_iret dX12_isMatch_39 rfl (by decide) (Nat.le_refl _) (Nat.le_refl _) ⟨rfl, rfl⟩
set_option maxHeartbeats 4000000 in
set_option maxRecDepth 20000 in
theorem tj_X12_join_169 {G : yb_G} {X : List (FieldType × Nat)} {rc136 : (Int32 → yb_S → Option (Int32 × yb_S))} {x1 : Int32} {x3 : Int32} {x4 : Int32} {s : yb_S} {out : (Int32 × yb_S)} (hrc136 : ∀ (x4' : Int32) (s' : yb_S), rc136 x4' s' = some out → Rn G RX12 cX12_join 5 (Option.some .int) false (yb_rm 3) (yb_qi X out.2 out.1) 0 0 136 [some (.ref (yb_ad G 176)), some (.int x1), none, some (.int x3), some (.int x4')] [] (yb_mk s' X)) (h : j_X12_join_169 rc136 x1 x3 x4 s = some out) : Rn G RX12 cX12_join 5 (Option.some .int) false (yb_rm 3) (yb_qi X out.2 out.1) 0 0 169 [some (.ref (yb_ad G 176)), some (.int x1), none, some (.int x3), some (.int x4)] [] (yb_mk s X) := by
  unfold j_X12_join_169 at h
  refine n_iinc (vs' := [some (.ref (yb_ad G 176)), some (.int x1), none, some (.int x3), some (.int (x4 + (1 : Int32)))]) dX12_join_169 rfl (ii_1 _) (Nat.le_of_ble_eq_true rfl) rfl rfl ?_
  refine n_goto 136 dX12_join_172 (by decide) ?_
  exact p_jump (hrc136 (x4 + (1 : Int32)) s h) (And.intro rfl (And.intro rfl (And.intro rfl (And.intro rfl trivial))))
set_option maxHeartbeats 4000000 in
set_option maxRecDepth 20000 in
theorem t_l_X12_join_136 {G : yb_G} {X : List (FieldType × Nat)} {x1 : Int32} {x3 : Int32} {out : (Int32 × yb_S)} : ∀ (k0 : Nat) (x4 : Int32) (s : yb_S), l_X12_join_136 x1 x3 k0 x4 s = some out → Rn G RX12 cX12_join 5 (Option.some .int) false (yb_rm 3) (yb_qi X out.2 out.1) 0 0 136 [some (.ref (yb_ad G 176)), some (.int x1), none, some (.int x3), some (.int x4)] [] (yb_mk s X) := by
  intro k0
  induction k0 with
  | zero => intro x4 s h; cases h
  | succ k0 ih =>
    intro x4 s h
    have h : f_X12_join_136 (fun x4 s => l_X12_join_136 x1 x3 k0 x4 s) x1 x3 x4 s = some out := h
    have hrc136 := ih
    unfold f_X12_join_136 at h
    refine n_iload dX12_join_136 rfl ?_
    refine n_aload_n (i := 0) dX12_join_138 rfl rfl ?_
    refine p_geti fl_X12_290 (sh_176 _ _) rfl dX12_join_139 ?_
    refine n_icmp_ge 175 dX12_join_142 (by decide) (fun c12 => ?_) (fun c12 => ?_)
    · have h := yb_ifp c12 h
      refine n_aload_n (i := 0) dX12_join_175 rfl rfl ?_
      refine n_iconst (0 : Int32) dX12_join_176 ic_0 ?_
      obtain ⟨s13, hs13, h⟩ := yb_bind h
      refine p_puti hs13 fp_X12_278 (sh_176 _ _) rfl rfl rfl dX12_join_177 ?_
      refine n_aload_n (i := 0) dX12_join_180 rfl rfl ?_
      refine n_aload_n (i := 0) dX12_join_181 rfl rfl ?_
      refine p_getr fl_X12_104 (sh_176 _ _) rfl (rR_176_35 _ _) dX12_join_182 ?_
      refine n_iload_n (i := 1) dX12_join_185 rfl rfl ?_
      obtain ⟨v14, hv14, h⟩ := yb_bind h
      refine p_iald hv14 (sh_213 _ _) dX12_join_186 ?_
      obtain ⟨q15, hq15, h⟩ := yb_bind h
      refine p_callVi (As := [.int v14]) (t_X12_heapSize hq15) cv_X12_325 (sh_176 _ _) rfl rfl (Nat.le_of_ble_eq_true rfl) dX12_join_187 (yb_rok (Nat.le_of_ble_eq_true rfl) (by decide)) ⟨rfl, rfl⟩ ⟨Nat.le_refl _, Nat.le_refl _⟩ (fun k16 => ?_)
      cases h
      exact n_iret dX12_join_190 rfl rfl (Nat.le_refl _) (Nat.le_refl _) ⟨rfl, rfl⟩
    · have h := yb_ifn c12 h
      refine n_aload_n (i := 0) dX12_join_145 rfl rfl ?_
      refine p_getr fl_X12_104 (sh_176 _ _) rfl (rR_176_35 _ _) dX12_join_146 ?_
      refine n_iload dX12_join_149 rfl ?_
      obtain ⟨v17, hv17, h⟩ := yb_bind h
      refine p_iald hv17 (sh_213 _ _) dX12_join_151 ?_
      refine n_iload_n (i := 3) dX12_join_152 rfl rfl ?_
      refine n_icmp_ne 169 dX12_join_153 (by decide) (fun c18 => ?_) (fun c18 => ?_)
      · have h := yb_ifn c18 h
        exact p_jump (tj_X12_join_169 hrc136 h) (And.intro rfl (And.intro rfl (And.intro rfl (And.intro rfl trivial))))
      · have h := yb_ifp c18 h
        refine n_aload_n (i := 0) dX12_join_156 rfl rfl ?_
        refine p_getr fl_X12_104 (sh_176 _ _) rfl (rR_176_35 _ _) dX12_join_157 ?_
        refine n_iload dX12_join_160 rfl ?_
        refine n_aload_n (i := 0) dX12_join_162 rfl rfl ?_
        refine p_getr fl_X12_104 (sh_176 _ _) rfl (rR_176_35 _ _) dX12_join_163 ?_
        refine n_iload_n (i := 1) dX12_join_166 rfl rfl ?_
        obtain ⟨v19, hv19, h⟩ := yb_bind h
        refine p_iald hv19 (sh_213 _ _) dX12_join_167 ?_
        obtain ⟨s20, hs20, h⟩ := yb_bind h
        refine p_iast hs20 (sh_213 _ _) dX12_join_168 ?_
        exact p_jump (tj_X12_join_169 hrc136 h) (And.intro rfl (And.intro rfl (And.intro rfl (And.intro rfl trivial))))
set_option maxHeartbeats 4000000 in
set_option maxRecDepth 20000 in
theorem tl_X12_join_136 {G : yb_G} {X : List (FieldType × Nat)} {x1 : Int32} {x3 : Int32} {out : (Int32 × yb_S)} {x4 : Int32} {s : yb_S} (h : l_X12_join_136 x1 x3 yb_N x4 s = some out) : Rn G RX12 cX12_join 5 (Option.some .int) false (yb_rm 3) (yb_qi X out.2 out.1) 0 0 136 [some (.ref (yb_ad G 176)), some (.int x1), none, some (.int x3), some (.int x4)] [] (yb_mk s X) := t_l_X12_join_136 _ _ _ h
set_option maxHeartbeats 4000000 in
set_option maxRecDepth 20000 in
theorem tj_X12_join_114 {G : yb_G} {X : List (FieldType × Nat)} {rc35 : (Int32 → Option (Int32 × yb_S))} {rc46 : (Int32 → Option (Int32 × yb_S))} {x1 : Int32} {x2 : Int32} {x3 : Int32} {x4 : Int32} {s : yb_S} {out : (Int32 × yb_S)} (hrc35 : ∀ (x3' : Int32), rc35 x3' = some out → Rn G RX12 cX12_join 5 (Option.some .int) false (yb_rm 3) (yb_qi X out.2 out.1) 0 0 35 [some (.ref (yb_ad G 176)), some (.int x1), some (.int x2), some (.int x3'), none] [] (yb_mk s X)) (hrc46 : ∀ (x4' : Int32), rc46 x4' = some out → Rn G RX12 cX12_join 5 (Option.some .int) false (yb_rm 3) (yb_qi X out.2 out.1) 0 0 46 [some (.ref (yb_ad G 176)), some (.int x1), some (.int x2), some (.int x3), some (.int x4')] [] (yb_mk s X)) (h : j_X12_join_114 rc35 rc46 x1 x2 x3 x4 s = some out) : Rn G RX12 cX12_join 5 (Option.some .int) false (yb_rm 3) (yb_qi X out.2 out.1) 0 0 114 [some (.ref (yb_ad G 176)), some (.int x1), some (.int x2), some (.int x3), some (.int x4)] [] (yb_mk s X) := by
  unfold j_X12_join_114 at h
  refine n_iinc (vs' := [some (.ref (yb_ad G 176)), some (.int x1), some (.int x2), some (.int x3), some (.int (x4 + (1 : Int32)))]) dX12_join_114 rfl (ii_1 _) (Nat.le_of_ble_eq_true rfl) rfl rfl ?_
  refine n_goto 46 dX12_join_117 (by decide) ?_
  exact p_jump (hrc46 (x4 + (1 : Int32)) h) (And.intro rfl (And.intro rfl (And.intro rfl (And.intro rfl (And.intro rfl trivial)))))
set_option maxHeartbeats 4000000 in
set_option maxRecDepth 20000 in
theorem t_l_X12_join_46 {G : yb_G} {X : List (FieldType × Nat)} {rc35 : (Int32 → Option (Int32 × yb_S))} {x1 : Int32} {x2 : Int32} {x3 : Int32} {s : yb_S} {out : (Int32 × yb_S)} (hrc35 : ∀ (x3' : Int32), rc35 x3' = some out → Rn G RX12 cX12_join 5 (Option.some .int) false (yb_rm 3) (yb_qi X out.2 out.1) 0 0 35 [some (.ref (yb_ad G 176)), some (.int x1), some (.int x2), some (.int x3'), none] [] (yb_mk s X)) : ∀ (k0 : Nat) (x4 : Int32), l_X12_join_46 rc35 x1 x2 x3 s k0 x4 = some out → Rn G RX12 cX12_join 5 (Option.some .int) false (yb_rm 3) (yb_qi X out.2 out.1) 0 0 46 [some (.ref (yb_ad G 176)), some (.int x1), some (.int x2), some (.int x3), some (.int x4)] [] (yb_mk s X) := by
  intro k0
  induction k0 with
  | zero => intro x4 h; cases h
  | succ k0 ih =>
    intro x4 h
    have h : f_X12_join_46 rc35 (fun x4 => l_X12_join_46 rc35 x1 x2 x3 s k0 x4) x1 x2 x3 s x4 = some out := h
    have hrc46 := ih
    unfold f_X12_join_46 at h
    refine n_iload dX12_join_46 rfl ?_
    refine n_aload_n (i := 0) dX12_join_48 rfl rfl ?_
    refine p_geti fl_X12_290 (sh_176 _ _) rfl dX12_join_49 ?_
    refine n_icmp_ge 120 dX12_join_52 (by decide) (fun c21 => ?_) (fun c21 => ?_)
    · have h := yb_ifp c21 h
      refine n_iinc (vs' := [some (.ref (yb_ad G 176)), some (.int x1), some (.int x2), some (.int (x3 + (1 : Int32))), some (.int x4)]) dX12_join_120 rfl (ii_1 _) (Nat.le_of_ble_eq_true rfl) rfl rfl ?_
      refine n_goto 35 dX12_join_123 (by decide) ?_
      exact p_jump (hrc35 (x3 + (1 : Int32)) h) (And.intro rfl (And.intro rfl (And.intro rfl (And.intro rfl trivial))))
    · have h := yb_ifn c21 h
      refine n_aload_n (i := 0) dX12_join_55 rfl rfl ?_
      refine p_getr fl_X12_104 (sh_176 _ _) rfl (rR_176_35 _ _) dX12_join_56 ?_
      refine n_iload_n (i := 3) dX12_join_59 rfl rfl ?_
      obtain ⟨v22, hv22, h⟩ := yb_bind h
      refine p_iald hv22 (sh_213 _ _) dX12_join_60 ?_
      refine n_aload_n (i := 0) dX12_join_61 rfl rfl ?_
      refine p_getr fl_X12_104 (sh_176 _ _) rfl (rR_176_35 _ _) dX12_join_62 ?_
      refine n_iload_n (i := 1) dX12_join_65 rfl rfl ?_
      obtain ⟨v23, hv23, h⟩ := yb_bind h
      refine p_iald hv23 (sh_213 _ _) dX12_join_66 ?_
      refine n_icmp_ne 114 dX12_join_67 (by decide) (fun c24 => ?_) (fun c24 => ?_)
      · have h := yb_ifn c24 h
        exact p_jump (tj_X12_join_114 hrc35 hrc46 h) (And.intro rfl (And.intro rfl (And.intro rfl (And.intro rfl (And.intro rfl trivial)))))
      · have h := yb_ifp c24 h
        refine n_aload_n (i := 0) dX12_join_70 rfl rfl ?_
        refine p_getr fl_X12_104 (sh_176 _ _) rfl (rR_176_35 _ _) dX12_join_71 ?_
        refine n_iload dX12_join_74 rfl ?_
        obtain ⟨v25, hv25, h⟩ := yb_bind h
        refine p_iald hv25 (sh_213 _ _) dX12_join_76 ?_
        refine n_aload_n (i := 0) dX12_join_77 rfl rfl ?_
        refine p_getr fl_X12_104 (sh_176 _ _) rfl (rR_176_35 _ _) dX12_join_78 ?_
        refine n_iload_n (i := 2) dX12_join_81 rfl rfl ?_
        obtain ⟨v26, hv26, h⟩ := yb_bind h
        refine p_iald hv26 (sh_213 _ _) dX12_join_82 ?_
        refine n_icmp_ne 114 dX12_join_83 (by decide) (fun c27 => ?_) (fun c27 => ?_)
        · have h := yb_ifn c27 h
          exact p_jump (tj_X12_join_114 hrc35 hrc46 h) (And.intro rfl (And.intro rfl (And.intro rfl (And.intro rfl (And.intro rfl trivial)))))
        · have h := yb_ifp c27 h
          refine n_aload_n (i := 0) dX12_join_86 rfl rfl ?_
          refine p_getr fl_X12_86 (sh_176 _ _) rfl (rR_176_29 _ _) dX12_join_87 ?_
          refine n_iload_n (i := 3) dX12_join_90 rfl rfl ?_
          obtain ⟨v28, hv28, h⟩ := yb_bind h
          refine p_iald hv28 (sh_207 _ _) dX12_join_91 ?_
          refine n_aload_n (i := 0) dX12_join_92 rfl rfl ?_
          refine p_getr fl_X12_86 (sh_176 _ _) rfl (rR_176_29 _ _) dX12_join_93 ?_
          refine n_iload dX12_join_96 rfl ?_
          obtain ⟨v29, hv29, h⟩ := yb_bind h
          refine p_iald hv29 (sh_207 _ _) dX12_join_98 ?_
          refine n_icmp_eq 112 dX12_join_99 (by decide) (fun c30 => ?_) (fun c30 => ?_)
          · have h := yb_ifp c30 h
            refine n_iconst (-1 : Int32) dX12_join_112 ic_m1 ?_
            cases h
            exact n_iret dX12_join_113 rfl rfl (Nat.le_refl _) (Nat.le_refl _) ⟨rfl, rfl⟩
          · have h := yb_ifn c30 h
            refine n_aload_n (i := 0) dX12_join_102 rfl rfl ?_
            refine n_iload_n (i := 3) dX12_join_103 rfl rfl ?_
            refine n_iload dX12_join_104 rfl ?_
            obtain ⟨q31, hq31, h⟩ := yb_bind h
            refine p_callVi (As := [.int x3, .int x4]) (t_X12_areBarred hq31) cv_X12_310 (sh_176 _ _) rfl rfl (Nat.le_of_ble_eq_true rfl) dX12_join_106 (yb_rok (Nat.le_of_ble_eq_true rfl) (by decide)) ⟨rfl, rfl⟩ ⟨Nat.le_refl _, Nat.le_refl _⟩ (fun k32 => ?_)
            refine n_if_eq 114 dX12_join_109 (by decide) (fun c33 => ?_) (fun c33 => ?_)
            · have h := yb_ifp c33 h
              exact p_jump (tj_X12_join_114 hrc35 hrc46 h) (And.intro rfl (And.intro rfl (And.intro rfl (And.intro rfl (And.intro rfl trivial)))))
            · have h := yb_ifn c33 h
              refine n_iconst (-1 : Int32) dX12_join_112 ic_m1 ?_
              cases h
              exact n_iret dX12_join_113 rfl rfl (Nat.le_refl _) (Nat.le_refl _) ⟨rfl, rfl⟩
set_option maxHeartbeats 4000000 in
set_option maxRecDepth 20000 in
theorem tl_X12_join_46 {G : yb_G} {X : List (FieldType × Nat)} {rc35 : (Int32 → Option (Int32 × yb_S))} {x1 : Int32} {x2 : Int32} {x3 : Int32} {s : yb_S} {out : (Int32 × yb_S)} (hrc35 : ∀ (x3' : Int32), rc35 x3' = some out → Rn G RX12 cX12_join 5 (Option.some .int) false (yb_rm 3) (yb_qi X out.2 out.1) 0 0 35 [some (.ref (yb_ad G 176)), some (.int x1), some (.int x2), some (.int x3'), none] [] (yb_mk s X)) {x4 : Int32} (h : l_X12_join_46 rc35 x1 x2 x3 s yb_N x4 = some out) : Rn G RX12 cX12_join 5 (Option.some .int) false (yb_rm 3) (yb_qi X out.2 out.1) 0 0 46 [some (.ref (yb_ad G 176)), some (.int x1), some (.int x2), some (.int x3), some (.int x4)] [] (yb_mk s X) := t_l_X12_join_46 hrc35 _ _ h
set_option maxHeartbeats 4000000 in
set_option maxRecDepth 20000 in
theorem t_l_X12_join_35 {G : yb_G} {X : List (FieldType × Nat)} {x1 : Int32} {x2 : Int32} {s : yb_S} {out : (Int32 × yb_S)} : ∀ (k0 : Nat) (x3 : Int32), l_X12_join_35 x1 x2 s k0 x3 = some out → Rn G RX12 cX12_join 5 (Option.some .int) false (yb_rm 3) (yb_qi X out.2 out.1) 0 0 35 [some (.ref (yb_ad G 176)), some (.int x1), some (.int x2), some (.int x3), none] [] (yb_mk s X) := by
  intro k0
  induction k0 with
  | zero => intro x3 h; cases h
  | succ k0 ih =>
    intro x3 h
    have h : f_X12_join_35 (fun x3 => l_X12_join_35 x1 x2 s k0 x3) x1 x2 s x3 = some out := h
    have hrc35 := ih
    unfold f_X12_join_35 at h
    refine n_iload_n (i := 3) dX12_join_35 rfl rfl ?_
    refine n_aload_n (i := 0) dX12_join_36 rfl rfl ?_
    refine p_geti fl_X12_290 (sh_176 _ _) rfl dX12_join_37 ?_
    refine n_icmp_ge 126 dX12_join_40 (by decide) (fun c10 => ?_) (fun c10 => ?_)
    · have h := yb_ifp c10 h
      refine n_aload_n (i := 0) dX12_join_126 rfl rfl ?_
      refine p_getr fl_X12_104 (sh_176 _ _) rfl (rR_176_35 _ _) dX12_join_127 ?_
      refine n_iload_n (i := 2) dX12_join_130 rfl rfl ?_
      obtain ⟨v11, hv11, h⟩ := yb_bind h
      refine p_iald hv11 (sh_213 _ _) dX12_join_131 ?_
      refine n_istore_n (i := 3) (vs' := [some (.ref (yb_ad G 176)), some (.int x1), some (.int x2), some (.int v11), none]) dX12_join_132 rfl (Nat.le_of_ble_eq_true rfl) rfl rfl ?_
      refine n_iconst (0 : Int32) dX12_join_133 ic_0 ?_
      refine n_istore (i := 4) (vs' := [some (.ref (yb_ad G 176)), some (.int x1), some (.int x2), some (.int v11), some (.int (0 : Int32))]) dX12_join_134 (Nat.le_of_ble_eq_true rfl) rfl rfl ?_
      exact p_jump (tl_X12_join_136 h) (And.intro rfl (And.intro rfl (And.intro rfl (And.intro rfl trivial))))
    · have h := yb_ifn c10 h
      refine n_iconst (0 : Int32) dX12_join_43 ic_0 ?_
      refine n_istore (i := 4) (vs' := [some (.ref (yb_ad G 176)), some (.int x1), some (.int x2), some (.int x3), some (.int (0 : Int32))]) dX12_join_44 (Nat.le_of_ble_eq_true rfl) rfl rfl ?_
      exact p_jump (tl_X12_join_46 hrc35 h) (And.intro rfl (And.intro rfl (And.intro rfl (And.intro rfl (And.intro rfl trivial)))))
set_option maxHeartbeats 4000000 in
set_option maxRecDepth 20000 in
theorem tl_X12_join_35 {G : yb_G} {X : List (FieldType × Nat)} {x1 : Int32} {x2 : Int32} {s : yb_S} {out : (Int32 × yb_S)} {x3 : Int32} (h : l_X12_join_35 x1 x2 s yb_N x3 = some out) : Rn G RX12 cX12_join 5 (Option.some .int) false (yb_rm 3) (yb_qi X out.2 out.1) 0 0 35 [some (.ref (yb_ad G 176)), some (.int x1), some (.int x2), some (.int x3), none] [] (yb_mk s X) := t_l_X12_join_35 _ _ h
set_option maxHeartbeats 4000000 in
set_option maxRecDepth 20000 in
theorem t_X12_join {G : yb_G} {X : List (FieldType × Nat)} {a1 : Int32} {a2 : Int32} {s : yb_S} {out : (Int32 × yb_S)} (h : f_X12_join a1 a2 s = some out) : Ct G yX12_join cX12_join 5 (Option.some .int) (yb_rm 3) [.ref (yb_ad G 176), .int a1, .int a2] (yb_mk s X) (yb_qi X out.2 out.1) := by
  refine Ct.of (own := RX12) (ini := false) (vs := [some (.ref (yb_ad G 176)), some (.int a1), some (.int a2), none, none]) ⟨rfl, by decide +kernel⟩ (fun h => by cases h) (Nat.le_of_ble_eq_true rfl) rfl ?_
  unfold f_X12_join at h
  refine n_aload_n (i := 0) dX12_join_0 rfl rfl ?_
  refine n_iload_n (i := 1) dX12_join_1 rfl rfl ?_
  obtain ⟨q1, hq1, h⟩ := yb_bind h
  refine p_callVi (As := [.int a1]) (t_X12_isRecord hq1) cv_X12_307 (sh_176 _ _) rfl rfl (Nat.le_of_ble_eq_true rfl) dX12_join_2 (yb_rok (Nat.le_of_ble_eq_true rfl) (by decide)) ⟨rfl, rfl⟩ ⟨Nat.le_refl _, Nat.le_refl _⟩ (fun k2 => ?_)
  refine n_if_eq 31 dX12_join_5 (by decide) (fun c3 => ?_) (fun c3 => ?_)
  · have h := yb_ifp c3 h
    refine n_iconst (-1 : Int32) dX12_join_31 ic_m1 ?_
    cases h
    exact n_iret dX12_join_32 rfl rfl (Nat.le_refl _) (Nat.le_refl _) ⟨rfl, rfl⟩
  · have h := yb_ifn c3 h
    refine n_aload_n (i := 0) dX12_join_8 rfl rfl ?_
    refine n_iload_n (i := 2) dX12_join_9 rfl rfl ?_
    obtain ⟨q4, hq4, h⟩ := yb_bind h
    refine p_callVi (As := [.int a2]) (t_X12_isRecord hq4) cv_X12_307 (sh_176 _ _) rfl rfl (Nat.le_of_ble_eq_true rfl) dX12_join_10 (yb_rok (Nat.le_of_ble_eq_true rfl) (by decide)) ⟨rfl, rfl⟩ ⟨Nat.le_refl _, Nat.le_refl _⟩ (fun k5 => ?_)
    refine n_if_eq 31 dX12_join_13 (by decide) (fun c6 => ?_) (fun c6 => ?_)
    · have h := yb_ifp c6 h
      refine n_iconst (-1 : Int32) dX12_join_31 ic_m1 ?_
      cases h
      exact n_iret dX12_join_32 rfl rfl (Nat.le_refl _) (Nat.le_refl _) ⟨rfl, rfl⟩
    · have h := yb_ifn c6 h
      refine n_aload_n (i := 0) dX12_join_16 rfl rfl ?_
      refine p_getr fl_X12_104 (sh_176 _ _) rfl (rR_176_35 _ _) dX12_join_17 ?_
      refine n_iload_n (i := 1) dX12_join_20 rfl rfl ?_
      obtain ⟨v7, hv7, h⟩ := yb_bind h
      refine p_iald hv7 (sh_213 _ _) dX12_join_21 ?_
      refine n_aload_n (i := 0) dX12_join_22 rfl rfl ?_
      refine p_getr fl_X12_104 (sh_176 _ _) rfl (rR_176_35 _ _) dX12_join_23 ?_
      refine n_iload_n (i := 2) dX12_join_26 rfl rfl ?_
      obtain ⟨v8, hv8, h⟩ := yb_bind h
      refine p_iald hv8 (sh_213 _ _) dX12_join_27 ?_
      refine n_icmp_ne 33 dX12_join_28 (by decide) (fun c9 => ?_) (fun c9 => ?_)
      · have h := yb_ifn c9 h
        refine n_iconst (0 : Int32) dX12_join_33 ic_0 ?_
        refine n_istore_n (i := 3) (vs' := [some (.ref (yb_ad G 176)), some (.int a1), some (.int a2), some (.int (0 : Int32)), none]) dX12_join_34 rfl (Nat.le_of_ble_eq_true rfl) rfl rfl ?_
        exact p_jump (tl_X12_join_35 h) (And.intro rfl (And.intro rfl (And.intro rfl (And.intro rfl trivial))))
      · have h := yb_ifp c9 h
        refine n_iconst (-1 : Int32) dX12_join_31 ic_m1 ?_
        cases h
        exact n_iret dX12_join_32 rfl rfl (Nat.le_refl _) (Nat.le_refl _) ⟨rfl, rfl⟩
set_option maxHeartbeats 4000000 in
set_option maxRecDepth 20000 in
theorem tj_X12_kin_44 {G : yb_G} {X : List (FieldType × Nat)} {rc14 : (Int32 → Int32 → yb_S → Option (Int32 × yb_S))} {x1 : Int32} {x3 : Int32} {y0 : Int32} {y1 : Int32} {s : yb_S} {out : (Int32 × yb_S)} (hrc14 : ∀ (x2' : Int32) (x3' : Int32) (s' : yb_S), rc14 x2' x3' s' = some out → Rn G RX12 cX12_kin 4 (Option.some .int) false (yb_rm 6) (yb_qi X out.2 out.1) 0 0 14 [some (.ref (yb_ad G 176)), some (.int x1), some (.int x2'), some (.int x3')] [] (yb_mk s' X)) (h : j_X12_kin_44 rc14 x1 x3 y0 y1 s = some out) : Rn G RX12 cX12_kin 4 (Option.some .int) false (yb_rm 6) (yb_qi X out.2 out.1) 0 0 44 [some (.ref (yb_ad G 176)), some (.int x1), none, some (.int x3)] [.int y0, .int y1] (yb_mk s X) := by
  unfold j_X12_kin_44 at h
  refine n_ior dX12_kin_44 ?_
  refine n_istore_n (i := 2) (vs' := [some (.ref (yb_ad G 176)), some (.int x1), some (.int (y1 ||| y0)), some (.int x3)]) dX12_kin_45 rfl (Nat.le_of_ble_eq_true rfl) rfl rfl ?_
  refine n_iinc (vs' := [some (.ref (yb_ad G 176)), some (.int x1), some (.int (y1 ||| y0)), some (.int (x3 + (1 : Int32)))]) dX12_kin_46 rfl (ii_1 _) (Nat.le_of_ble_eq_true rfl) rfl rfl ?_
  refine n_goto 14 dX12_kin_49 (by decide) ?_
  exact p_jump (hrc14 (y1 ||| y0) (x3 + (1 : Int32)) s h) (And.intro rfl (And.intro rfl (And.intro rfl (And.intro rfl trivial))))
set_option maxHeartbeats 4000000 in
set_option maxRecDepth 20000 in
theorem tj_X12_kin_43 {G : yb_G} {X : List (FieldType × Nat)} {rc14 : (Int32 → Int32 → yb_S → Option (Int32 × yb_S))} {x1 : Int32} {x3 : Int32} {y0 : Int32} {s : yb_S} {out : (Int32 × yb_S)} (hrc14 : ∀ (x2' : Int32) (x3' : Int32) (s' : yb_S), rc14 x2' x3' s' = some out → Rn G RX12 cX12_kin 4 (Option.some .int) false (yb_rm 6) (yb_qi X out.2 out.1) 0 0 14 [some (.ref (yb_ad G 176)), some (.int x1), some (.int x2'), some (.int x3')] [] (yb_mk s' X)) (h : j_X12_kin_43 rc14 x1 x3 y0 s = some out) : Rn G RX12 cX12_kin 4 (Option.some .int) false (yb_rm 6) (yb_qi X out.2 out.1) 0 0 43 [some (.ref (yb_ad G 176)), some (.int x1), none, some (.int x3)] [.int y0] (yb_mk s X) := by
  unfold j_X12_kin_43 at h
  refine n_iconst (0 : Int32) dX12_kin_43 ic_0 ?_
  exact p_jump (tj_X12_kin_44 hrc14 h) (And.intro rfl (And.intro rfl (And.intro rfl trivial)))
set_option maxHeartbeats 4000000 in
set_option maxRecDepth 20000 in
theorem t_l_X12_kin_14 {G : yb_G} {X : List (FieldType × Nat)} {x1 : Int32} {out : (Int32 × yb_S)} : ∀ (k0 : Nat) (x2 : Int32) (x3 : Int32) (s : yb_S), l_X12_kin_14 x1 k0 x2 x3 s = some out → Rn G RX12 cX12_kin 4 (Option.some .int) false (yb_rm 6) (yb_qi X out.2 out.1) 0 0 14 [some (.ref (yb_ad G 176)), some (.int x1), some (.int x2), some (.int x3)] [] (yb_mk s X) := by
  intro k0
  induction k0 with
  | zero => intro x2 x3 s h; cases h
  | succ k0 ih =>
    intro x2 x3 s h
    have h : f_X12_kin_14 (fun x2 x3 s => l_X12_kin_14 x1 k0 x2 x3 s) x1 x2 x3 s = some out := h
    have hrc14 := ih
    unfold f_X12_kin_14 at h
    refine n_iload_n (i := 3) dX12_kin_14 rfl rfl ?_
    refine n_aload_n (i := 0) dX12_kin_15 rfl rfl ?_
    refine p_geti fl_X12_254 (sh_176 _ _) rfl dX12_kin_16 ?_
    refine n_icmp_ge 52 dX12_kin_19 (by decide) (fun c4 => ?_) (fun c4 => ?_)
    · have h := yb_ifp c4 h
      refine n_iload_n (i := 2) dX12_kin_52 rfl rfl ?_
      cases h
      exact n_iret dX12_kin_53 rfl rfl (Nat.le_refl _) (Nat.le_refl _) ⟨rfl, rfl⟩
    · have h := yb_ifn c4 h
      refine n_iload_n (i := 2) dX12_kin_22 rfl rfl ?_
      refine n_iload_n (i := 3) dX12_kin_23 rfl rfl ?_
      refine n_iload_n (i := 1) dX12_kin_24 rfl rfl ?_
      refine n_icmp_eq 43 dX12_kin_25 (by decide) (fun c5 => ?_) (fun c5 => ?_)
      · have h := yb_ifp c5 h
        exact p_jump (tj_X12_kin_43 hrc14 h) (And.intro rfl (And.intro rfl (And.intro rfl trivial)))
      · have h := yb_ifn c5 h
        refine n_aload_n (i := 0) dX12_kin_28 rfl rfl ?_
        refine n_iload_n (i := 1) dX12_kin_29 rfl rfl ?_
        refine n_iload_n (i := 3) dX12_kin_30 rfl rfl ?_
        obtain ⟨q6, hq6, h⟩ := yb_bind h
        refine p_callVi (As := [.int x1, .int x3]) (t_X12_areKin hq6) cv_X12_340 (sh_176 _ _) rfl rfl (Nat.le_of_ble_eq_true rfl) dX12_kin_31 (yb_rok (Nat.le_of_ble_eq_true rfl) (by decide)) ⟨rfl, rfl⟩ ⟨Nat.le_refl _, Nat.le_refl _⟩ (fun k7 => ?_)
        refine n_if_eq 43 dX12_kin_34 (by decide) (fun c8 => ?_) (fun c8 => ?_)
        · have h := yb_ifp c8 h
          exact p_jump (tj_X12_kin_43 hrc14 h) (And.intro rfl (And.intro rfl (And.intro rfl trivial)))
        · have h := yb_ifn c8 h
          refine n_iconst (1 : Int32) dX12_kin_37 ic_1 ?_
          refine n_iload_n (i := 3) dX12_kin_38 rfl rfl ?_
          refine n_ishl dX12_kin_39 ?_
          refine n_goto 44 dX12_kin_40 (by decide) ?_
          exact p_jump (tj_X12_kin_44 hrc14 h) (And.intro rfl (And.intro rfl (And.intro rfl trivial)))
set_option maxHeartbeats 4000000 in
set_option maxRecDepth 20000 in
theorem tl_X12_kin_14 {G : yb_G} {X : List (FieldType × Nat)} {x1 : Int32} {out : (Int32 × yb_S)} {x2 : Int32} {x3 : Int32} {s : yb_S} (h : l_X12_kin_14 x1 yb_N x2 x3 s = some out) : Rn G RX12 cX12_kin 4 (Option.some .int) false (yb_rm 6) (yb_qi X out.2 out.1) 0 0 14 [some (.ref (yb_ad G 176)), some (.int x1), some (.int x2), some (.int x3)] [] (yb_mk s X) := t_l_X12_kin_14 _ _ _ _ h
set_option maxHeartbeats 4000000 in
set_option maxRecDepth 20000 in
theorem t_X12_kin {G : yb_G} {X : List (FieldType × Nat)} {a1 : Int32} {s : yb_S} {out : (Int32 × yb_S)} (h : f_X12_kin a1 s = some out) : Ct G yX12_kin cX12_kin 4 (Option.some .int) (yb_rm 6) [.ref (yb_ad G 176), .int a1] (yb_mk s X) (yb_qi X out.2 out.1) := by
  refine Ct.of (own := RX12) (ini := false) (vs := [some (.ref (yb_ad G 176)), some (.int a1), none, none]) ⟨rfl, by decide +kernel⟩ (fun h => by cases h) (Nat.le_of_ble_eq_true rfl) rfl ?_
  unfold f_X12_kin at h
  refine n_aload_n (i := 0) dX12_kin_0 rfl rfl ?_
  refine n_iload_n (i := 1) dX12_kin_1 rfl rfl ?_
  obtain ⟨q1, hq1, h⟩ := yb_bind h
  refine p_callVi (As := [.int a1]) (t_X12_isFamily hq1) cv_X12_282 (sh_176 _ _) rfl rfl (Nat.le_of_ble_eq_true rfl) dX12_kin_2 (yb_rok (Nat.le_of_ble_eq_true rfl) (by decide)) ⟨rfl, rfl⟩ ⟨Nat.le_refl _, Nat.le_refl _⟩ (fun k2 => ?_)
  refine n_if_ne 10 dX12_kin_5 (by decide) (fun c3 => ?_) (fun c3 => ?_)
  · have h := yb_ifn c3 h
    refine n_iconst (0 : Int32) dX12_kin_10 ic_0 ?_
    refine n_istore_n (i := 2) (vs' := [some (.ref (yb_ad G 176)), some (.int a1), some (.int (0 : Int32)), none]) dX12_kin_11 rfl (Nat.le_of_ble_eq_true rfl) rfl rfl ?_
    refine n_iconst (0 : Int32) dX12_kin_12 ic_0 ?_
    refine n_istore_n (i := 3) (vs' := [some (.ref (yb_ad G 176)), some (.int a1), some (.int (0 : Int32)), some (.int (0 : Int32))]) dX12_kin_13 rfl (Nat.le_of_ble_eq_true rfl) rfl rfl ?_
    exact p_jump (tl_X12_kin_14 h) (And.intro rfl (And.intro rfl (And.intro rfl (And.intro rfl trivial))))
  · have h := yb_ifp c3 h
    refine n_iconst (-1 : Int32) dX12_kin_8 ic_m1 ?_
    cases h
    exact n_iret dX12_kin_9 rfl rfl (Nat.le_refl _) (Nat.le_refl _) ⟨rfl, rfl⟩
set_option maxHeartbeats 4000000 in
set_option maxRecDepth 20000 in
theorem t_X12_lack {G : yb_G} {X : List (FieldType × Nat)} {a1 : Int32} {s : yb_S} {out : (Int32 × yb_S)} (h : f_X12_lack a1 s = some out) : Ct G yX12_lack cX12_lack 2 (Option.some .int) (yb_rm 6) [.ref (yb_ad G 176), .int a1] (yb_mk s X) (yb_qi X out.2 out.1) := by
  refine Ct.of (own := RX12) (ini := false) (vs := [some (.ref (yb_ad G 176)), some (.int a1)]) ⟨rfl, by decide +kernel⟩ (fun h => by cases h) (Nat.le_of_ble_eq_true rfl) rfl ?_
  unfold f_X12_lack at h
  refine n_aload_n (i := 0) dX12_lack_0 rfl rfl ?_
  refine n_iload_n (i := 1) dX12_lack_1 rfl rfl ?_
  obtain ⟨q1, hq1, h⟩ := yb_bind h
  refine p_callVi (As := [.int a1]) (t_X12_isTown hq1) cv_X12_261 (sh_176 _ _) rfl rfl (Nat.le_of_ble_eq_true rfl) dX12_lack_2 (yb_rok (Nat.le_of_ble_eq_true rfl) (by decide)) ⟨rfl, rfl⟩ ⟨Nat.le_refl _, Nat.le_refl _⟩ (fun k2 => ?_)
  refine n_if_eq 16 dX12_lack_5 (by decide) (fun c3 => ?_) (fun c3 => ?_)
  · have h := yb_ifp c3 h
    refine n_ldcw (-2147483648 : Int32) k_X12_314 dX12_lack_16 ?_
    cases h
    exact n_iret dX12_lack_19 rfl rfl (Nat.le_refl _) (Nat.le_refl _) ⟨rfl, rfl⟩
  · have h := yb_ifn c3 h
    refine n_aload_n (i := 0) dX12_lack_8 rfl rfl ?_
    refine n_iload_n (i := 1) dX12_lack_9 rfl rfl ?_
    obtain ⟨q4, hq4, h⟩ := yb_bind h
    refine p_callVi (As := [.int a1]) (t_X12_lackOf hq4) cv_X12_494 (sh_176 _ _) rfl rfl (Nat.le_of_ble_eq_true rfl) dX12_lack_10 (yb_rok (Nat.le_of_ble_eq_true rfl) (by decide)) ⟨rfl, rfl⟩ ⟨Nat.le_refl _, Nat.le_refl _⟩ (fun k5 => ?_)
    refine n_goto 19 dX12_lack_13 (by decide) ?_
    cases h
    exact n_iret dX12_lack_19 rfl rfl (Nat.le_refl _) (Nat.le_refl _) ⟨rfl, rfl⟩
set_option maxHeartbeats 4000000 in
set_option maxRecDepth 20000 in
theorem tj_X12_lacks_137 {G : yb_G} {X : List (FieldType × Nat)} {y0 : Int32} {y1 : Int32} {s : yb_S} {out : Int32} (h : j_X12_lacks_137 y0 y1 s = some out) : Rn G RX12 cX12_lacks 6 (Option.some .int) false (yb_rm 2) (yb_qi X s out) 0 0 137 [none, none, none, none, none, none] [.int y0, .int y1] (yb_mk s X) := by
  unfold j_X12_lacks_137 at h
  refine n_isub dX12_lacks_137 ?_
  cases h
  exact n_iret dX12_lacks_138 rfl rfl (Nat.le_refl _) (Nat.le_refl _) ⟨rfl, rfl⟩
set_option maxHeartbeats 4000000 in
set_option maxRecDepth 20000 in
theorem tj_X12_lacks_119 {G : yb_G} {X : List (FieldType × Nat)} {rc77 : (Int32 → Int32 → Option Int32)} {x1 : Int32} {x3 : Int32} {x4 : Int32} {x5 : Int32} {s : yb_S} {out : Int32} (hrc77 : ∀ (x4' : Int32) (x5' : Int32), rc77 x4' x5' = some out → Rn G RX12 cX12_lacks 6 (Option.some .int) false (yb_rm 2) (yb_qi X s out) 0 0 77 [some (.ref (yb_ad G 176)), some (.int x1), none, some (.int x3), some (.int x4'), some (.int x5')] [] (yb_mk s X)) (h : j_X12_lacks_119 rc77 x1 x3 x4 x5 s = some out) : Rn G RX12 cX12_lacks 6 (Option.some .int) false (yb_rm 2) (yb_qi X s out) 0 0 119 [some (.ref (yb_ad G 176)), some (.int x1), none, some (.int x3), some (.int x4), some (.int x5)] [] (yb_mk s X) := by
  unfold j_X12_lacks_119 at h
  refine n_iinc (vs' := [some (.ref (yb_ad G 176)), some (.int x1), none, some (.int x3), some (.int x4), some (.int (x5 + (1 : Int32)))]) dX12_lacks_119 rfl (ii_1 _) (Nat.le_of_ble_eq_true rfl) rfl rfl ?_
  refine n_goto 77 dX12_lacks_122 (by decide) ?_
  exact p_jump (hrc77 x4 (x5 + (1 : Int32)) h) (And.intro rfl (And.intro rfl (And.intro rfl (And.intro rfl (And.intro rfl trivial)))))
set_option maxHeartbeats 4000000 in
set_option maxRecDepth 20000 in
theorem t_l_X12_lacks_77 {G : yb_G} {X : List (FieldType × Nat)} {x1 : Int32} {x3 : Int32} {s : yb_S} {out : Int32} : ∀ (k0 : Nat) (x4 : Int32) (x5 : Int32), l_X12_lacks_77 x1 x3 s k0 x4 x5 = some out → Rn G RX12 cX12_lacks 6 (Option.some .int) false (yb_rm 2) (yb_qi X s out) 0 0 77 [some (.ref (yb_ad G 176)), some (.int x1), none, some (.int x3), some (.int x4), some (.int x5)] [] (yb_mk s X) := by
  intro k0
  induction k0 with
  | zero => intro x4 x5 h; cases h
  | succ k0 ih =>
    intro x4 x5 h
    have h : f_X12_lacks_77 (fun x4 x5 => l_X12_lacks_77 x1 x3 s k0 x4 x5) x1 x3 s x4 x5 = some out := h
    have hrc77 := ih
    unfold f_X12_lacks_77 at h
    refine n_iload dX12_lacks_77 rfl ?_
    refine n_aload_n (i := 0) dX12_lacks_79 rfl rfl ?_
    refine p_geti fl_X12_580 (sh_176 _ _) rfl dX12_lacks_80 ?_
    refine n_icmp_ge 125 dX12_lacks_83 (by decide) (fun c4 => ?_) (fun c4 => ?_)
    · have h := yb_ifp c4 h
      refine n_iload_n (i := 3) dX12_lacks_125 rfl rfl ?_
      refine n_iload dX12_lacks_126 rfl ?_
      refine n_if_ge 135 dX12_lacks_128 (by decide) (fun c5 => ?_) (fun c5 => ?_)
      · have h := yb_ifp c5 h
        refine n_iload dX12_lacks_135 rfl ?_
        exact p_jump (tj_X12_lacks_137 h) trivial
      · have h := yb_ifn c5 h
        refine n_iconst (0 : Int32) dX12_lacks_131 ic_0 ?_
        refine n_goto 137 dX12_lacks_132 (by decide) ?_
        exact p_jump (tj_X12_lacks_137 h) trivial
    · have h := yb_ifn c4 h
      refine n_aload_n (i := 0) dX12_lacks_86 rfl rfl ?_
      refine p_getr fl_X12_238 (sh_176 _ _) rfl (rR_176_82 _ _) dX12_lacks_87 ?_
      refine n_iload dX12_lacks_90 rfl ?_
      obtain ⟨v6, hv6, h⟩ := yb_bind h
      refine p_iald hv6 (sh_601 _ _) dX12_lacks_92 ?_
      refine n_i2l dX12_lacks_93 ?_
      refine n_aload_n (i := 0) dX12_lacks_94 rfl rfl ?_
      refine p_geti fl_X12_275 (sh_176 _ _) rfl dX12_lacks_95 ?_
      refine n_i2l dX12_lacks_98 ?_
      refine n_iload_n (i := 1) dX12_lacks_99 rfl rfl ?_
      refine n_i2l dX12_lacks_100 ?_
      obtain ⟨q7, hq7, h⟩ := yb_bind h
      refine p_callSi (As := [.long (v6.toInt64), .long ((s.1 176 7).toInt64), .long (x1.toInt64)]) (t_X12_in hq7) cs_X12_247 rfl rfl (Nat.le_of_ble_eq_true rfl) dX12_lacks_101 (yb_rok (Nat.le_of_ble_eq_true rfl) (by decide)) ⟨rfl, rfl⟩ ⟨Nat.le_refl _, Nat.le_refl _⟩ (fun k8 => ?_)
      refine n_if_eq 119 dX12_lacks_104 (by decide) (fun c9 => ?_) (fun c9 => ?_)
      · have h := yb_ifp c9 h
        exact p_jump (tj_X12_lacks_119 hrc77 h) (And.intro rfl (And.intro rfl (And.intro rfl (And.intro rfl (And.intro rfl trivial)))))
      · have h := yb_ifn c9 h
        refine n_iload dX12_lacks_107 rfl ?_
        refine n_aload_n (i := 0) dX12_lacks_109 rfl rfl ?_
        refine p_getr fl_X12_241 (sh_176 _ _) rfl (rR_176_83 _ _) dX12_lacks_110 ?_
        refine n_iload dX12_lacks_113 rfl ?_
        obtain ⟨v10, hv10, h⟩ := yb_bind h
        refine p_iald hv10 (sh_602 _ _) dX12_lacks_115 ?_
        refine n_iadd dX12_lacks_116 ?_
        refine n_istore (i := 4) (vs' := [some (.ref (yb_ad G 176)), some (.int x1), none, some (.int x3), some (.int (x4 + v10)), some (.int x5)]) dX12_lacks_117 (Nat.le_of_ble_eq_true rfl) rfl rfl ?_
        exact p_jump (tj_X12_lacks_119 hrc77 h) (And.intro rfl (And.intro rfl (And.intro rfl (And.intro rfl (And.intro rfl trivial)))))
set_option maxHeartbeats 4000000 in
set_option maxRecDepth 20000 in
theorem tl_X12_lacks_77 {G : yb_G} {X : List (FieldType × Nat)} {x1 : Int32} {x3 : Int32} {s : yb_S} {out : Int32} {x4 : Int32} {x5 : Int32} (h : l_X12_lacks_77 x1 x3 s yb_N x4 x5 = some out) : Rn G RX12 cX12_lacks 6 (Option.some .int) false (yb_rm 2) (yb_qi X s out) 0 0 77 [some (.ref (yb_ad G 176)), some (.int x1), none, some (.int x3), some (.int x4), some (.int x5)] [] (yb_mk s X) := t_l_X12_lacks_77 _ _ _ h
set_option maxHeartbeats 4000000 in
set_option maxRecDepth 20000 in
theorem tj_X12_lacks_68 {G : yb_G} {X : List (FieldType × Nat)} {rc14 : (Int32 → Int32 → Option Int32)} {x1 : Int32} {x2 : Int32} {x3 : Int32} {x4 : Int32} {x5 : Int32} {s : yb_S} {out : Int32} (hrc14 : ∀ (x3' : Int32) (x5' : Int32), rc14 x3' x5' = some out → Rn G RX12 cX12_lacks 6 (Option.some .int) false (yb_rm 2) (yb_qi X s out) 0 0 14 [some (.ref (yb_ad G 176)), some (.int x1), some (.int x2), some (.int x3'), some (.int x4), some (.int x5')] [] (yb_mk s X)) (h : j_X12_lacks_68 rc14 x1 x2 x3 x4 x5 s = some out) : Rn G RX12 cX12_lacks 6 (Option.some .int) false (yb_rm 2) (yb_qi X s out) 0 0 68 [some (.ref (yb_ad G 176)), some (.int x1), some (.int x2), some (.int x3), some (.int x4), some (.int x5)] [] (yb_mk s X) := by
  unfold j_X12_lacks_68 at h
  refine n_iinc (vs' := [some (.ref (yb_ad G 176)), some (.int x1), some (.int x2), some (.int x3), some (.int x4), some (.int (x5 + (1 : Int32)))]) dX12_lacks_68 rfl (ii_1 _) (Nat.le_of_ble_eq_true rfl) rfl rfl ?_
  refine n_goto 14 dX12_lacks_71 (by decide) ?_
  exact p_jump (hrc14 x3 (x5 + (1 : Int32)) h) (And.intro rfl (And.intro rfl (And.intro rfl (And.intro rfl (And.intro rfl (And.intro rfl trivial))))))
set_option maxHeartbeats 4000000 in
set_option maxRecDepth 20000 in
theorem tj_X12_lacks_66 {G : yb_G} {X : List (FieldType × Nat)} {rc14 : (Int32 → Int32 → Option Int32)} {x1 : Int32} {x2 : Int32} {x4 : Int32} {x5 : Int32} {y0 : Int32} {y1 : Int32} {s : yb_S} {out : Int32} (hrc14 : ∀ (x3' : Int32) (x5' : Int32), rc14 x3' x5' = some out → Rn G RX12 cX12_lacks 6 (Option.some .int) false (yb_rm 2) (yb_qi X s out) 0 0 14 [some (.ref (yb_ad G 176)), some (.int x1), some (.int x2), some (.int x3'), some (.int x4), some (.int x5')] [] (yb_mk s X)) (h : j_X12_lacks_66 rc14 x1 x2 x4 x5 y0 y1 s = some out) : Rn G RX12 cX12_lacks 6 (Option.some .int) false (yb_rm 2) (yb_qi X s out) 0 0 66 [some (.ref (yb_ad G 176)), some (.int x1), some (.int x2), none, some (.int x4), some (.int x5)] [.int y0, .int y1] (yb_mk s X) := by
  unfold j_X12_lacks_66 at h
  refine n_iadd dX12_lacks_66 ?_
  refine n_istore_n (i := 3) (vs' := [some (.ref (yb_ad G 176)), some (.int x1), some (.int x2), some (.int (y1 + y0)), some (.int x4), some (.int x5)]) dX12_lacks_67 rfl (Nat.le_of_ble_eq_true rfl) rfl rfl ?_
  exact p_jump (tj_X12_lacks_68 hrc14 h) (And.intro rfl (And.intro rfl (And.intro rfl (And.intro rfl (And.intro rfl (And.intro rfl trivial))))))
set_option maxHeartbeats 4000000 in
set_option maxRecDepth 20000 in
theorem t_l_X12_lacks_14 {G : yb_G} {X : List (FieldType × Nat)} {x1 : Int32} {x2 : Int32} {x4 : Int32} {s : yb_S} {out : Int32} : ∀ (k0 : Nat) (x3 : Int32) (x5 : Int32), l_X12_lacks_14 x1 x2 x4 s k0 x3 x5 = some out → Rn G RX12 cX12_lacks 6 (Option.some .int) false (yb_rm 2) (yb_qi X s out) 0 0 14 [some (.ref (yb_ad G 176)), some (.int x1), some (.int x2), some (.int x3), some (.int x4), some (.int x5)] [] (yb_mk s X) := by
  intro k0
  induction k0 with
  | zero => intro x3 x5 h; cases h
  | succ k0 ih =>
    intro x3 x5 h
    have h : f_X12_lacks_14 (fun x3 x5 => l_X12_lacks_14 x1 x2 x4 s k0 x3 x5) x1 x2 x4 s x3 x5 = some out := h
    have hrc14 := ih
    unfold f_X12_lacks_14 at h
    refine n_iload dX12_lacks_14 rfl ?_
    refine n_aload_n (i := 0) dX12_lacks_16 rfl rfl ?_
    refine p_geti fl_X12_573 (sh_176 _ _) rfl dX12_lacks_17 ?_
    refine n_icmp_ge 74 dX12_lacks_20 (by decide) (fun c3 => ?_) (fun c3 => ?_)
    · have h := yb_ifp c3 h
      refine n_iconst (0 : Int32) dX12_lacks_74 ic_0 ?_
      refine n_istore (i := 5) (vs' := [some (.ref (yb_ad G 176)), some (.int x1), some (.int x2), some (.int x3), some (.int x4), some (.int (0 : Int32))]) dX12_lacks_75 (Nat.le_of_ble_eq_true rfl) rfl rfl ?_
      exact p_jump (tl_X12_lacks_77 h) (And.intro rfl (And.intro rfl (And.intro rfl (And.intro rfl (And.intro rfl trivial)))))
    · have h := yb_ifn c3 h
      refine n_aload_n (i := 0) dX12_lacks_23 rfl rfl ?_
      refine p_getr fl_X12_229 (sh_176 _ _) rfl (rR_176_79 _ _) dX12_lacks_24 ?_
      refine n_iload dX12_lacks_27 rfl ?_
      obtain ⟨v11, hv11, h⟩ := yb_bind h
      refine p_iald hv11 (sh_598 _ _) dX12_lacks_29 ?_
      refine n_i2l dX12_lacks_30 ?_
      refine n_aload_n (i := 0) dX12_lacks_31 rfl rfl ?_
      refine p_geti fl_X12_275 (sh_176 _ _) rfl dX12_lacks_32 ?_
      refine n_i2l dX12_lacks_35 ?_
      refine n_iload_n (i := 1) dX12_lacks_36 rfl rfl ?_
      refine n_i2l dX12_lacks_37 ?_
      obtain ⟨q12, hq12, h⟩ := yb_bind h
      refine p_callSi (As := [.long (v11.toInt64), .long ((s.1 176 7).toInt64), .long (x1.toInt64)]) (t_X12_in hq12) cs_X12_247 rfl rfl (Nat.le_of_ble_eq_true rfl) dX12_lacks_38 (yb_rok (Nat.le_of_ble_eq_true rfl) (by decide)) ⟨rfl, rfl⟩ ⟨Nat.le_refl _, Nat.le_refl _⟩ (fun k13 => ?_)
      refine n_if_eq 68 dX12_lacks_41 (by decide) (fun c14 => ?_) (fun c14 => ?_)
      · have h := yb_ifp c14 h
        exact p_jump (tj_X12_lacks_68 hrc14 h) (And.intro rfl (And.intro rfl (And.intro rfl (And.intro rfl (And.intro rfl (And.intro rfl trivial))))))
      · have h := yb_ifn c14 h
        refine n_iload_n (i := 3) dX12_lacks_44 rfl rfl ?_
        refine n_iload_n (i := 2) dX12_lacks_45 rfl rfl ?_
        refine n_if_eq 59 dX12_lacks_46 (by decide) (fun c15 => ?_) (fun c15 => ?_)
        · have h := yb_ifp c15 h
          refine n_aload_n (i := 0) dX12_lacks_59 rfl rfl ?_
          refine p_getr fl_X12_232 (sh_176 _ _) rfl (rR_176_80 _ _) dX12_lacks_60 ?_
          refine n_iload dX12_lacks_63 rfl ?_
          obtain ⟨v16, hv16, h⟩ := yb_bind h
          refine p_iald hv16 (sh_599 _ _) dX12_lacks_65 ?_
          exact p_jump (tj_X12_lacks_66 hrc14 h) (And.intro rfl (And.intro rfl (And.intro rfl (And.intro rfl (And.intro rfl trivial)))))
        · have h := yb_ifn c15 h
          refine n_aload_n (i := 0) dX12_lacks_49 rfl rfl ?_
          refine p_getr fl_X12_235 (sh_176 _ _) rfl (rR_176_81 _ _) dX12_lacks_50 ?_
          refine n_iload dX12_lacks_53 rfl ?_
          obtain ⟨v17, hv17, h⟩ := yb_bind h
          refine p_iald hv17 (sh_600 _ _) dX12_lacks_55 ?_
          refine n_goto 66 dX12_lacks_56 (by decide) ?_
          exact p_jump (tj_X12_lacks_66 hrc14 h) (And.intro rfl (And.intro rfl (And.intro rfl (And.intro rfl (And.intro rfl trivial)))))
set_option maxHeartbeats 4000000 in
set_option maxRecDepth 20000 in
theorem tl_X12_lacks_14 {G : yb_G} {X : List (FieldType × Nat)} {x1 : Int32} {x2 : Int32} {x4 : Int32} {s : yb_S} {out : Int32} {x3 : Int32} {x5 : Int32} (h : l_X12_lacks_14 x1 x2 x4 s yb_N x3 x5 = some out) : Rn G RX12 cX12_lacks 6 (Option.some .int) false (yb_rm 2) (yb_qi X s out) 0 0 14 [some (.ref (yb_ad G 176)), some (.int x1), some (.int x2), some (.int x3), some (.int x4), some (.int x5)] [] (yb_mk s X) := t_l_X12_lacks_14 _ _ _ h
set_option maxHeartbeats 4000000 in
set_option maxRecDepth 20000 in
theorem t_X12_lacks {G : yb_G} {X : List (FieldType × Nat)} {a1 : Int32} {a2 : Int32} {s : yb_S} {out : Int32} (h : f_X12_lacks a1 a2 s = some out) : Ct G yX12_lacks cX12_lacks 6 (Option.some .int) (yb_rm 2) [.ref (yb_ad G 176), .int a1, .int a2] (yb_mk s X) (yb_qi X s out) := by
  refine Ct.of (own := RX12) (ini := false) (vs := [some (.ref (yb_ad G 176)), some (.int a1), some (.int a2), none, none, none]) ⟨rfl, by decide +kernel⟩ (fun h => by cases h) (Nat.le_of_ble_eq_true rfl) rfl ?_
  unfold f_X12_lacks at h
  refine n_aload_n (i := 0) dX12_lacks_0 rfl rfl ?_
  obtain ⟨q1, hq1, h⟩ := yb_bind h
  refine p_callVi (As := []) (t_X12_hallHeads hq1) cv_X12_583 (sh_176 _ _) rfl rfl (Nat.le_of_ble_eq_true rfl) dX12_lacks_1 (yb_rok (Nat.le_of_ble_eq_true rfl) (by decide)) ⟨rfl, rfl⟩ ⟨Nat.le_refl _, Nat.le_refl _⟩ (fun k2 => ?_)
  refine n_istore_n (i := 3) (vs' := [some (.ref (yb_ad G 176)), some (.int a1), some (.int a2), some (.int q1), none, none]) dX12_lacks_4 rfl (Nat.le_of_ble_eq_true rfl) rfl rfl ?_
  refine n_aload_n (i := 0) dX12_lacks_5 rfl rfl ?_
  refine p_geti fl_X12_272 (sh_176 _ _) rfl dX12_lacks_6 ?_
  refine n_istore (i := 4) (vs' := [some (.ref (yb_ad G 176)), some (.int a1), some (.int a2), some (.int q1), some (.int (s.1 176 8)), none]) dX12_lacks_9 (Nat.le_of_ble_eq_true rfl) rfl rfl ?_
  refine n_iconst (0 : Int32) dX12_lacks_11 ic_0 ?_
  refine n_istore (i := 5) (vs' := [some (.ref (yb_ad G 176)), some (.int a1), some (.int a2), some (.int q1), some (.int (s.1 176 8)), some (.int (0 : Int32))]) dX12_lacks_12 (Nat.le_of_ble_eq_true rfl) rfl rfl ?_
  exact p_jump (tl_X12_lacks_14 h) (And.intro rfl (And.intro rfl (And.intro rfl (And.intro rfl (And.intro rfl (And.intro rfl trivial))))))
set_option maxHeartbeats 4000000 in
set_option maxRecDepth 20000 in
theorem t_X12_night {G : yb_G} {X : List (FieldType × Nat)} {a1 : Int32} {a2 : Int32} {s : yb_S} {out : Int32} (h : f_X12_night a1 a2 s = some out) : Ct G yX12_night cX12_night 3 (Option.some .int) (yb_rm 3) [.ref (yb_ad G 176), .int a1, .int a2] (yb_mk s X) (yb_qi X s out) := by
  refine Ct.of (own := RX12) (ini := false) (vs := [some (.ref (yb_ad G 176)), some (.int a1), some (.int a2)]) ⟨rfl, by decide +kernel⟩ (fun h => by cases h) (Nat.le_of_ble_eq_true rfl) rfl ?_
  unfold f_X12_night at h
  refine n_aload_n (i := 0) dX12_night_0 rfl rfl ?_
  refine n_iload_n (i := 1) dX12_night_1 rfl rfl ?_
  obtain ⟨q1, hq1, h⟩ := yb_bind h
  refine p_callVi (As := [.int a1]) (t_X12_isFamily hq1) cv_X12_282 (sh_176 _ _) rfl rfl (Nat.le_of_ble_eq_true rfl) dX12_night_2 (yb_rok (Nat.le_of_ble_eq_true rfl) (by decide)) ⟨rfl, rfl⟩ ⟨Nat.le_refl _, Nat.le_refl _⟩ (fun k2 => ?_)
  refine n_if_eq 37 dX12_night_5 (by decide) (fun c3 => ?_) (fun c3 => ?_)
  · have h := yb_ifp c3 h
    refine n_iconst (-1 : Int32) dX12_night_37 ic_m1 ?_
    cases h
    exact n_iret dX12_night_38 rfl rfl (Nat.le_refl _) (Nat.le_refl _) ⟨rfl, rfl⟩
  · have h := yb_ifn c3 h
    refine n_aload_n (i := 0) dX12_night_8 rfl rfl ?_
    refine n_iload_n (i := 2) dX12_night_9 rfl rfl ?_
    obtain ⟨q4, hq4, h⟩ := yb_bind h
    refine p_callVi (As := [.int a2]) (t_X12_hasEnded hq4) cv_X12_539 (sh_176 _ _) rfl rfl (Nat.le_of_ble_eq_true rfl) dX12_night_10 (yb_rok (Nat.le_of_ble_eq_true rfl) (by decide)) ⟨rfl, rfl⟩ ⟨Nat.le_refl _, Nat.le_refl _⟩ (fun k5 => ?_)
    refine n_if_eq 37 dX12_night_13 (by decide) (fun c6 => ?_) (fun c6 => ?_)
    · have h := yb_ifp c6 h
      refine n_iconst (-1 : Int32) dX12_night_37 ic_m1 ?_
      cases h
      exact n_iret dX12_night_38 rfl rfl (Nat.le_refl _) (Nat.le_refl _) ⟨rfl, rfl⟩
    · have h := yb_ifn c6 h
      refine n_iload_n (i := 2) dX12_night_16 rfl rfl ?_
      refine n_aload_n (i := 0) dX12_night_17 rfl rfl ?_
      refine p_getr fl_X12_75 (sh_176 _ _) rfl (rR_176_25 _ _) dX12_night_18 ?_
      refine n_iload_n (i := 1) dX12_night_21 rfl rfl ?_
      obtain ⟨v7, hv7, h⟩ := yb_bind h
      refine p_iald hv7 (sh_198 _ _) dX12_night_22 ?_
      refine n_icmp_lt 37 dX12_night_23 (by decide) (fun c8 => ?_) (fun c8 => ?_)
      · have h := yb_ifp c8 h
        refine n_iconst (-1 : Int32) dX12_night_37 ic_m1 ?_
        cases h
        exact n_iret dX12_night_38 rfl rfl (Nat.le_refl _) (Nat.le_refl _) ⟨rfl, rfl⟩
      · have h := yb_ifn c8 h
        refine n_aload_n (i := 0) dX12_night_26 rfl rfl ?_
        refine p_getr fl_X12_203 (sh_176 _ _) rfl (rR_176_66 _ _) dX12_night_27 ?_
        refine n_iload_n (i := 1) dX12_night_30 rfl rfl ?_
        obtain ⟨r9, hr9, h⟩ := yb_bind h
        refine p_aald hr9 (sh_366 _ _) (by decide) rfl (rF_366 _ _) dX12_night_31 ?_
        refine n_iload_n (i := 2) dX12_night_32 rfl rfl ?_
        obtain ⟨v10, hv10, h⟩ := yb_bind h
        refine p_iald hv10 (shF_366 hr9 _ _) dX12_night_33 ?_
        refine n_goto 38 dX12_night_34 (by decide) ?_
        cases h
        exact n_iret dX12_night_38 rfl rfl (Nat.le_refl _) (Nat.le_refl _) ⟨rfl, rfl⟩
set_option maxHeartbeats 4000000 in
set_option maxRecDepth 20000 in
theorem t_l_X12_lead_20 {G : yb_G} {X : List (FieldType × Nat)} {x1 : Int32} {x2 : Int32} {s : yb_S} {out : Int32} : ∀ (k0 : Nat) (x3 : Int32), l_X12_lead_20 x1 x2 s k0 x3 = some out → Rn G RX12 cX12_lead 4 (Option.some .int) false (yb_rm 4) (yb_qi X s out) 0 0 20 [some (.ref (yb_ad G 176)), some (.int x1), some (.int x2), some (.int x3)] [] (yb_mk s X) := by
  intro k0
  induction k0 with
  | zero => intro x3 h; cases h
  | succ k0 ih =>
    intro x3 h
    have h : f_X12_lead_20 (fun x3 => l_X12_lead_20 x1 x2 s k0 x3) x1 x2 s x3 = some out := h
    have hrc20 := ih
    unfold f_X12_lead_20 at h
    refine n_iload_n (i := 3) dX12_lead_20 rfl rfl ?_
    refine n_aload_n (i := 0) dX12_lead_21 rfl rfl ?_
    refine p_geti fl_X12_254 (sh_176 _ _) rfl dX12_lead_22 ?_
    refine n_icmp_ge 46 dX12_lead_25 (by decide) (fun c7 => ?_) (fun c7 => ?_)
    · have h := yb_ifp c7 h
      refine n_iconst (-1 : Int32) dX12_lead_46 ic_m1 ?_
      cases h
      exact n_iret dX12_lead_47 rfl rfl (Nat.le_refl _) (Nat.le_refl _) ⟨rfl, rfl⟩
    · have h := yb_ifn c7 h
      refine n_aload_n (i := 0) dX12_lead_28 rfl rfl ?_
      refine n_iload_n (i := 3) dX12_lead_29 rfl rfl ?_
      refine n_iload_n (i := 2) dX12_lead_30 rfl rfl ?_
      obtain ⟨q8, hq8, h⟩ := yb_bind h
      refine p_callVi (As := [.int x3, .int x2]) (t_X12_night hq8) cv_X12_542 (sh_176 _ _) rfl rfl (Nat.le_of_ble_eq_true rfl) dX12_lead_31 (yb_rok (Nat.le_of_ble_eq_true rfl) (by decide)) ⟨rfl, rfl⟩ ⟨Nat.le_refl _, Nat.le_refl _⟩ (fun k9 => ?_)
      refine n_iload_n (i := 1) dX12_lead_34 rfl rfl ?_
      refine n_icmp_ne 40 dX12_lead_35 (by decide) (fun c10 => ?_) (fun c10 => ?_)
      · have h := yb_ifn c10 h
        refine n_iinc (vs' := [some (.ref (yb_ad G 176)), some (.int x1), some (.int x2), some (.int (x3 + (1 : Int32)))]) dX12_lead_40 rfl (ii_1 _) (Nat.le_of_ble_eq_true rfl) rfl rfl ?_
        refine n_goto 20 dX12_lead_43 (by decide) ?_
        exact p_jump (hrc20 (x3 + (1 : Int32)) h) (And.intro rfl (And.intro rfl (And.intro rfl (And.intro rfl trivial))))
      · have h := yb_ifp c10 h
        refine n_iload_n (i := 3) dX12_lead_38 rfl rfl ?_
        cases h
        exact n_iret dX12_lead_39 rfl rfl (Nat.le_refl _) (Nat.le_refl _) ⟨rfl, rfl⟩
set_option maxHeartbeats 4000000 in
set_option maxRecDepth 20000 in
theorem tl_X12_lead_20 {G : yb_G} {X : List (FieldType × Nat)} {x1 : Int32} {x2 : Int32} {s : yb_S} {out : Int32} {x3 : Int32} (h : l_X12_lead_20 x1 x2 s yb_N x3 = some out) : Rn G RX12 cX12_lead 4 (Option.some .int) false (yb_rm 4) (yb_qi X s out) 0 0 20 [some (.ref (yb_ad G 176)), some (.int x1), some (.int x2), some (.int x3)] [] (yb_mk s X) := t_l_X12_lead_20 _ _ h
set_option maxHeartbeats 4000000 in
set_option maxRecDepth 20000 in
theorem t_X12_lead {G : yb_G} {X : List (FieldType × Nat)} {a1 : Int32} {a2 : Int32} {s : yb_S} {out : Int32} (h : f_X12_lead a1 a2 s = some out) : Ct G yX12_lead cX12_lead 4 (Option.some .int) (yb_rm 4) [.ref (yb_ad G 176), .int a1, .int a2] (yb_mk s X) (yb_qi X s out) := by
  refine Ct.of (own := RX12) (ini := false) (vs := [some (.ref (yb_ad G 176)), some (.int a1), some (.int a2), none]) ⟨rfl, by decide +kernel⟩ (fun h => by cases h) (Nat.le_of_ble_eq_true rfl) rfl ?_
  unfold f_X12_lead at h
  refine n_aload_n (i := 0) dX12_lead_0 rfl rfl ?_
  refine n_iload_n (i := 1) dX12_lead_1 rfl rfl ?_
  obtain ⟨q1, hq1, h⟩ := yb_bind h
  refine p_callVi (As := [.int a1]) (t_X12_isHome hq1) cv_X12_506 (sh_176 _ _) rfl rfl (Nat.le_of_ble_eq_true rfl) dX12_lead_2 (yb_rok (Nat.le_of_ble_eq_true rfl) (by decide)) ⟨rfl, rfl⟩ ⟨Nat.le_refl _, Nat.le_refl _⟩ (fun k2 => ?_)
  refine n_if_eq 16 dX12_lead_5 (by decide) (fun c3 => ?_) (fun c3 => ?_)
  · have h := yb_ifp c3 h
    refine n_iconst (-1 : Int32) dX12_lead_16 ic_m1 ?_
    cases h
    exact n_iret dX12_lead_17 rfl rfl (Nat.le_refl _) (Nat.le_refl _) ⟨rfl, rfl⟩
  · have h := yb_ifn c3 h
    refine n_aload_n (i := 0) dX12_lead_8 rfl rfl ?_
    refine n_iload_n (i := 2) dX12_lead_9 rfl rfl ?_
    obtain ⟨q4, hq4, h⟩ := yb_bind h
    refine p_callVi (As := [.int a2]) (t_X12_hasEnded hq4) cv_X12_539 (sh_176 _ _) rfl rfl (Nat.le_of_ble_eq_true rfl) dX12_lead_10 (yb_rok (Nat.le_of_ble_eq_true rfl) (by decide)) ⟨rfl, rfl⟩ ⟨Nat.le_refl _, Nat.le_refl _⟩ (fun k5 => ?_)
    refine n_if_ne 18 dX12_lead_13 (by decide) (fun c6 => ?_) (fun c6 => ?_)
    · have h := yb_ifn c6 h
      refine n_iconst (0 : Int32) dX12_lead_18 ic_0 ?_
      refine n_istore_n (i := 3) (vs' := [some (.ref (yb_ad G 176)), some (.int a1), some (.int a2), some (.int (0 : Int32))]) dX12_lead_19 rfl (Nat.le_of_ble_eq_true rfl) rfl rfl ?_
      exact p_jump (tl_X12_lead_20 h) (And.intro rfl (And.intro rfl (And.intro rfl (And.intro rfl trivial))))
    · have h := yb_ifp c6 h
      refine n_iconst (-1 : Int32) dX12_lead_16 ic_m1 ?_
      cases h
      exact n_iret dX12_lead_17 rfl rfl (Nat.le_refl _) (Nat.le_refl _) ⟨rfl, rfl⟩
set_option maxHeartbeats 4000000 in
set_option maxRecDepth 20000 in
theorem t_X12_leave {G : yb_G} {X : List (FieldType × Nat)} {a1 : Int32} {s : yb_S} {out : (Int32 × yb_S)} (h : f_X12_leave a1 s = some out) : Ct G yX12_leave cX12_leave 2 (Option.some .boolean) (yb_rm 3) [.ref (yb_ad G 176), .int a1] (yb_mk s X) (yb_qi X out.2 out.1) := by
  refine Ct.of (own := RX12) (ini := false) (vs := [some (.ref (yb_ad G 176)), some (.int a1)]) ⟨rfl, by decide +kernel⟩ (fun h => by cases h) (Nat.le_of_ble_eq_true rfl) rfl ?_
  unfold f_X12_leave at h
  refine n_aload_n (i := 0) dX12_leave_0 rfl rfl ?_
  refine n_iload_n (i := 1) dX12_leave_1 rfl rfl ?_
  obtain ⟨q1, hq1, h⟩ := yb_bind h
  refine p_callVi (As := [.int a1]) (t_X12_isFamily hq1) cv_X12_282 (sh_176 _ _) rfl rfl (Nat.le_of_ble_eq_true rfl) dX12_leave_2 (yb_rok (Nat.le_of_ble_eq_true rfl) (by decide)) ⟨rfl, rfl⟩ ⟨Nat.le_refl _, Nat.le_refl _⟩ (fun k2 => ?_)
  refine n_if_eq 18 dX12_leave_5 (by decide) (fun c3 => ?_) (fun c3 => ?_)
  · have h := yb_ifp c3 h
    refine n_iconst (0 : Int32) dX12_leave_18 ic_0 ?_
    cases h
    exact n_iret dX12_leave_19 rfl (by decide) (Nat.le_refl _) (Nat.le_refl _) ⟨rfl, rfl⟩
  · have h := yb_ifn c3 h
    refine n_aload_n (i := 0) dX12_leave_8 rfl rfl ?_
    refine p_getr fl_X12_66 (sh_176 _ _) rfl (rR_176_22 _ _) dX12_leave_9 ?_
    refine n_iload_n (i := 1) dX12_leave_12 rfl rfl ?_
    obtain ⟨v4, hv4, h⟩ := yb_bind h
    refine p_iald hv4 (sh_195 _ _) dX12_leave_13 ?_
    refine n_iconst (2 : Int32) dX12_leave_14 ic_2 ?_
    refine n_icmp_ne 20 dX12_leave_15 (by decide) (fun c5 => ?_) (fun c5 => ?_)
    · have h := yb_ifn c5 h
      refine n_aload_n (i := 0) dX12_leave_20 rfl rfl ?_
      refine n_iload_n (i := 1) dX12_leave_21 rfl rfl ?_
      refine n_iconst (-1 : Int32) dX12_leave_22 ic_m1 ?_
      obtain ⟨q6, hq6, h⟩ := yb_bind h
      refine p_callVv (As := [.int a1, .int (-1 : Int32)]) (t_X12_houses hq6) cv_X12_521 (sh_176 _ _) rfl rfl (Nat.le_of_ble_eq_true rfl) dX12_leave_23 (yb_rok (Nat.le_of_ble_eq_true rfl) (by decide)) ⟨rfl, rfl⟩ ⟨Nat.le_refl _, Nat.le_refl _⟩ (fun k7 => ?_)
      refine n_aload_n (i := 0) dX12_leave_26 rfl rfl ?_
      refine p_getr fl_X12_66 (sh_176 _ _) rfl (rR_176_22 _ _) dX12_leave_27 ?_
      refine n_iload_n (i := 1) dX12_leave_30 rfl rfl ?_
      refine n_iconst (2 : Int32) dX12_leave_31 ic_2 ?_
      obtain ⟨s8, hs8, h⟩ := yb_bind h
      refine p_iast hs8 (sh_195 _ _) dX12_leave_32 ?_
      refine n_iconst (1 : Int32) dX12_leave_33 ic_1 ?_
      cases h
      exact n_iret dX12_leave_34 rfl (by decide) (Nat.le_refl _) (Nat.le_refl _) ⟨rfl, rfl⟩
    · have h := yb_ifp c5 h
      refine n_iconst (0 : Int32) dX12_leave_18 ic_0 ?_
      cases h
      exact n_iret dX12_leave_19 rfl (by decide) (Nat.le_refl _) (Nat.le_refl _) ⟨rfl, rfl⟩
set_option maxHeartbeats 4000000 in
set_option maxRecDepth 20000 in
theorem tj_X12_match_53 {G : yb_G} {X : List (FieldType × Nat)} {rc14 : (Int32 → Int32 → Option Int32)} {x1 : Int32} {x2 : Int32} {x3 : Int32} {s : yb_S} {out : Int32} (hrc14 : ∀ (x2' : Int32) (x3' : Int32), rc14 x2' x3' = some out → Rn G RX12 cX12_match 4 (Option.some .int) false (yb_rm 5) (yb_qi X s out) 0 0 14 [some (.ref (yb_ad G 176)), some (.int x1), some (.int x2'), some (.int x3')] [] (yb_mk s X)) (h : j_X12_match_53 rc14 x1 x2 x3 s = some out) : Rn G RX12 cX12_match 4 (Option.some .int) false (yb_rm 5) (yb_qi X s out) 0 0 53 [some (.ref (yb_ad G 176)), some (.int x1), some (.int x2), some (.int x3)] [] (yb_mk s X) := by
  unfold j_X12_match_53 at h
  refine n_iinc (vs' := [some (.ref (yb_ad G 176)), some (.int x1), some (.int x2), some (.int (x3 + (1 : Int32)))]) dX12_match_53 rfl (ii_1 _) (Nat.le_of_ble_eq_true rfl) rfl rfl ?_
  refine n_goto 14 dX12_match_56 (by decide) ?_
  exact p_jump (hrc14 x2 (x3 + (1 : Int32)) h) (And.intro rfl (And.intro rfl (And.intro rfl (And.intro rfl trivial))))
set_option maxHeartbeats 4000000 in
set_option maxRecDepth 20000 in
theorem tj_X12_match_51 {G : yb_G} {X : List (FieldType × Nat)} {rc14 : (Int32 → Int32 → Option Int32)} {x1 : Int32} {x3 : Int32} {s : yb_S} {out : Int32} (hrc14 : ∀ (x2' : Int32) (x3' : Int32), rc14 x2' x3' = some out → Rn G RX12 cX12_match 4 (Option.some .int) false (yb_rm 5) (yb_qi X s out) 0 0 14 [some (.ref (yb_ad G 176)), some (.int x1), some (.int x2'), some (.int x3')] [] (yb_mk s X)) (h : j_X12_match_51 rc14 x1 x3 s = some out) : Rn G RX12 cX12_match 4 (Option.some .int) false (yb_rm 5) (yb_qi X s out) 0 0 51 [some (.ref (yb_ad G 176)), some (.int x1), none, some (.int x3)] [] (yb_mk s X) := by
  unfold j_X12_match_51 at h
  refine n_iload_n (i := 3) dX12_match_51 rfl rfl ?_
  refine n_istore_n (i := 2) (vs' := [some (.ref (yb_ad G 176)), some (.int x1), some (.int x3), some (.int x3)]) dX12_match_52 rfl (Nat.le_of_ble_eq_true rfl) rfl rfl ?_
  exact p_jump (tj_X12_match_53 hrc14 h) (And.intro rfl (And.intro rfl (And.intro rfl (And.intro rfl trivial))))
set_option maxHeartbeats 4000000 in
set_option maxRecDepth 20000 in
theorem t_l_X12_match_14 {G : yb_G} {X : List (FieldType × Nat)} {x1 : Int32} {s : yb_S} {out : Int32} : ∀ (k0 : Nat) (x2 : Int32) (x3 : Int32), l_X12_match_14 x1 s k0 x2 x3 = some out → Rn G RX12 cX12_match 4 (Option.some .int) false (yb_rm 5) (yb_qi X s out) 0 0 14 [some (.ref (yb_ad G 176)), some (.int x1), some (.int x2), some (.int x3)] [] (yb_mk s X) := by
  intro k0
  induction k0 with
  | zero => intro x2 x3 h; cases h
  | succ k0 ih =>
    intro x2 x3 h
    have h : f_X12_match_14 (fun x2 x3 => l_X12_match_14 x1 s k0 x2 x3) x1 s x2 x3 = some out := h
    have hrc14 := ih
    unfold f_X12_match_14 at h
    refine n_iload_n (i := 3) dX12_match_14 rfl rfl ?_
    refine n_aload_n (i := 0) dX12_match_15 rfl rfl ?_
    refine p_geti fl_X12_290 (sh_176 _ _) rfl dX12_match_16 ?_
    refine n_icmp_ge 59 dX12_match_19 (by decide) (fun c4 => ?_) (fun c4 => ?_)
    · have h := yb_ifp c4 h
      refine n_iload_n (i := 2) dX12_match_59 rfl rfl ?_
      cases h
      exact n_iret dX12_match_60 rfl rfl (Nat.le_refl _) (Nat.le_refl _) ⟨rfl, rfl⟩
    · have h := yb_ifn c4 h
      refine n_aload_n (i := 0) dX12_match_22 rfl rfl ?_
      refine n_iload_n (i := 1) dX12_match_23 rfl rfl ?_
      refine n_iload_n (i := 3) dX12_match_24 rfl rfl ?_
      obtain ⟨q5, hq5, h⟩ := yb_bind h
      refine p_callVi (As := [.int x1, .int x3]) (t_X12_isMatch hq5) cv_X12_319 (sh_176 _ _) rfl rfl (Nat.le_of_ble_eq_true rfl) dX12_match_25 (yb_rok (Nat.le_of_ble_eq_true rfl) (by decide)) ⟨rfl, rfl⟩ ⟨Nat.le_refl _, Nat.le_refl _⟩ (fun k6 => ?_)
      refine n_if_eq 53 dX12_match_28 (by decide) (fun c7 => ?_) (fun c7 => ?_)
      · have h := yb_ifp c7 h
        exact p_jump (tj_X12_match_53 hrc14 h) (And.intro rfl (And.intro rfl (And.intro rfl (And.intro rfl trivial))))
      · have h := yb_ifn c7 h
        refine n_iload_n (i := 2) dX12_match_31 rfl rfl ?_
        refine n_iconst (-1 : Int32) dX12_match_32 ic_m1 ?_
        refine n_icmp_eq 51 dX12_match_33 (by decide) (fun c8 => ?_) (fun c8 => ?_)
        · have h := yb_ifp c8 h
          exact p_jump (tj_X12_match_51 hrc14 h) (And.intro rfl (And.intro rfl (And.intro rfl trivial)))
        · have h := yb_ifn c8 h
          refine n_aload_n (i := 0) dX12_match_36 rfl rfl ?_
          refine n_iload_n (i := 1) dX12_match_37 rfl rfl ?_
          refine n_iload_n (i := 3) dX12_match_38 rfl rfl ?_
          obtain ⟨q9, hq9, h⟩ := yb_bind h
          refine p_callVi (As := [.int x1, .int x3]) (t_X12_pointsOf hq9) cv_X12_315 (sh_176 _ _) rfl rfl (Nat.le_of_ble_eq_true rfl) dX12_match_39 (yb_rok (Nat.le_of_ble_eq_true rfl) (by decide)) ⟨rfl, rfl⟩ ⟨Nat.le_refl _, Nat.le_refl _⟩ (fun k10 => ?_)
          refine n_aload_n (i := 0) dX12_match_42 rfl rfl ?_
          refine n_iload_n (i := 1) dX12_match_43 rfl rfl ?_
          refine n_iload_n (i := 2) dX12_match_44 rfl rfl ?_
          obtain ⟨q11, hq11, h⟩ := yb_bind h
          refine p_callVi (As := [.int x1, .int x2]) (t_X12_pointsOf hq11) cv_X12_315 (sh_176 _ _) rfl rfl (Nat.le_of_ble_eq_true rfl) dX12_match_45 (yb_rok (Nat.le_of_ble_eq_true rfl) (by decide)) ⟨rfl, rfl⟩ ⟨Nat.le_refl _, Nat.le_refl _⟩ (fun k12 => ?_)
          refine n_icmp_le 53 dX12_match_48 (by decide) (fun c13 => ?_) (fun c13 => ?_)
          · have h := yb_ifp c13 h
            exact p_jump (tj_X12_match_53 hrc14 h) (And.intro rfl (And.intro rfl (And.intro rfl (And.intro rfl trivial))))
          · have h := yb_ifn c13 h
            exact p_jump (tj_X12_match_51 hrc14 h) (And.intro rfl (And.intro rfl (And.intro rfl trivial)))
set_option maxHeartbeats 4000000 in
set_option maxRecDepth 20000 in
theorem tl_X12_match_14 {G : yb_G} {X : List (FieldType × Nat)} {x1 : Int32} {s : yb_S} {out : Int32} {x2 : Int32} {x3 : Int32} (h : l_X12_match_14 x1 s yb_N x2 x3 = some out) : Rn G RX12 cX12_match 4 (Option.some .int) false (yb_rm 5) (yb_qi X s out) 0 0 14 [some (.ref (yb_ad G 176)), some (.int x1), some (.int x2), some (.int x3)] [] (yb_mk s X) := t_l_X12_match_14 _ _ _ h
set_option maxHeartbeats 4000000 in
set_option maxRecDepth 20000 in
theorem t_X12_match {G : yb_G} {X : List (FieldType × Nat)} {a1 : Int32} {s : yb_S} {out : Int32} (h : f_X12_match a1 s = some out) : Ct G yX12_match cX12_match 4 (Option.some .int) (yb_rm 5) [.ref (yb_ad G 176), .int a1] (yb_mk s X) (yb_qi X s out) := by
  refine Ct.of (own := RX12) (ini := false) (vs := [some (.ref (yb_ad G 176)), some (.int a1), none, none]) ⟨rfl, by decide +kernel⟩ (fun h => by cases h) (Nat.le_of_ble_eq_true rfl) rfl ?_
  unfold f_X12_match at h
  refine n_aload_n (i := 0) dX12_match_0 rfl rfl ?_
  refine n_iload_n (i := 1) dX12_match_1 rfl rfl ?_
  obtain ⟨q1, hq1, h⟩ := yb_bind h
  refine p_callVi (As := [.int a1]) (t_X12_isRecord hq1) cv_X12_307 (sh_176 _ _) rfl rfl (Nat.le_of_ble_eq_true rfl) dX12_match_2 (yb_rok (Nat.le_of_ble_eq_true rfl) (by decide)) ⟨rfl, rfl⟩ ⟨Nat.le_refl _, Nat.le_refl _⟩ (fun k2 => ?_)
  refine n_if_ne 10 dX12_match_5 (by decide) (fun c3 => ?_) (fun c3 => ?_)
  · have h := yb_ifn c3 h
    refine n_iconst (-1 : Int32) dX12_match_10 ic_m1 ?_
    refine n_istore_n (i := 2) (vs' := [some (.ref (yb_ad G 176)), some (.int a1), some (.int (-1 : Int32)), none]) dX12_match_11 rfl (Nat.le_of_ble_eq_true rfl) rfl rfl ?_
    refine n_iconst (0 : Int32) dX12_match_12 ic_0 ?_
    refine n_istore_n (i := 3) (vs' := [some (.ref (yb_ad G 176)), some (.int a1), some (.int (-1 : Int32)), some (.int (0 : Int32))]) dX12_match_13 rfl (Nat.le_of_ble_eq_true rfl) rfl rfl ?_
    exact p_jump (tl_X12_match_14 h) (And.intro rfl (And.intro rfl (And.intro rfl (And.intro rfl trivial))))
  · have h := yb_ifp c3 h
    refine n_iconst (-1 : Int32) dX12_match_8 ic_m1 ?_
    cases h
    exact n_iret dX12_match_9 rfl rfl (Nat.le_refl _) (Nat.le_refl _) ⟨rfl, rfl⟩
set_option maxHeartbeats 4000000 in
set_option maxRecDepth 20000 in
theorem tj_X12_move_123 {G : yb_G} {X : List (FieldType × Nat)} {x1 : Int32} {x2 : Int32} {x5 : Int32} {s : yb_S} {out : (Int32 × yb_S)} (h : j_X12_move_123 x1 x2 x5 s = some out) : Rn G RX12 cX12_move 6 (Option.some .int) false (yb_rm 9) (yb_qi X out.2 out.1) 0 0 123 [some (.ref (yb_ad G 176)), some (.int x1), some (.int x2), none, none, some (.int x5)] [] (yb_mk s X) := by
  unfold j_X12_move_123 at h
  refine n_aload_n (i := 0) dX12_move_123 rfl rfl ?_
  refine n_iload_n (i := 1) dX12_move_124 rfl rfl ?_
  refine n_iload_n (i := 2) dX12_move_125 rfl rfl ?_
  obtain ⟨q17, hq17, h⟩ := yb_bind h
  refine p_callVv (As := [.int x1, .int x2]) (t_X12_houses hq17) cv_X12_521 (sh_176 _ _) rfl rfl (Nat.le_of_ble_eq_true rfl) dX12_move_126 (yb_rok (Nat.le_of_ble_eq_true rfl) (by decide)) ⟨rfl, rfl⟩ ⟨Nat.le_refl _, Nat.le_refl _⟩ (fun k18 => ?_)
  refine n_iload dX12_move_129 rfl ?_
  cases h
  exact n_iret dX12_move_131 rfl rfl (Nat.le_refl _) (Nat.le_refl _) ⟨rfl, rfl⟩
set_option maxHeartbeats 4000000 in
set_option maxRecDepth 20000 in
theorem tj_X12_move_120 {G : yb_G} {X : List (FieldType × Nat)} {x1 : Int32} {x2 : Int32} {x5 : Int32} {s : yb_S} {out : (Int32 × yb_S)} (h : j_X12_move_120 x1 x2 x5 s = some out) : Rn G RX12 cX12_move 6 (Option.some .int) false (yb_rm 9) (yb_qi X out.2 out.1) 0 0 120 [some (.ref (yb_ad G 176)), some (.int x1), some (.int x2), none, none, some (.int x5)] [] (yb_mk s X) := by
  unfold j_X12_move_120 at h
  refine n_iinc (vs' := [some (.ref (yb_ad G 176)), some (.int x1), some (.int x2), none, none, some (.int (x5 + (2 : Int32)))]) dX12_move_120 rfl (ii_2 _) (Nat.le_of_ble_eq_true rfl) rfl rfl ?_
  exact p_jump (tj_X12_move_123 h) (And.intro rfl (And.intro rfl (And.intro rfl (And.intro rfl trivial))))
set_option maxHeartbeats 4000000 in
set_option maxRecDepth 20000 in
theorem tj_X12_move_93 {G : yb_G} {X : List (FieldType × Nat)} {x1 : Int32} {x2 : Int32} {x3 : Int32} {x4 : Int32} {y0 : Int32} {s : yb_S} {out : (Int32 × yb_S)} (h : j_X12_move_93 x1 x2 x3 x4 y0 s = some out) : Rn G RX12 cX12_move 6 (Option.some .int) false (yb_rm 9) (yb_qi X out.2 out.1) 0 0 93 [some (.ref (yb_ad G 176)), some (.int x1), some (.int x2), some (.int x3), some (.int x4), none] [.int y0] (yb_mk s X) := by
  unfold j_X12_move_93 at h
  refine n_istore (i := 5) (vs' := [some (.ref (yb_ad G 176)), some (.int x1), some (.int x2), some (.int x3), some (.int x4), some (.int y0)]) dX12_move_93 (Nat.le_of_ble_eq_true rfl) rfl rfl ?_
  refine n_aload_n (i := 0) dX12_move_95 rfl rfl ?_
  refine n_iload_n (i := 3) dX12_move_96 rfl rfl ?_
  refine n_iload_n (i := 1) dX12_move_97 rfl rfl ?_
  obtain ⟨q14, hq14, h⟩ := yb_bind h
  refine p_callVi (As := [.int x3, .int x1]) (t_X12_wants hq14) cv_X12_476 (sh_176 _ _) rfl rfl (Nat.le_of_ble_eq_true rfl) dX12_move_98 (yb_rok (Nat.le_of_ble_eq_true rfl) (by decide)) ⟨rfl, rfl⟩ ⟨Nat.le_refl _, Nat.le_refl _⟩ (fun k15 => ?_)
  refine n_if_eq 123 dX12_move_101 (by decide) (fun c16 => ?_) (fun c16 => ?_)
  · have h := yb_ifp c16 h
    exact p_jump (tj_X12_move_123 h) (And.intro rfl (And.intro rfl (And.intro rfl (And.intro rfl trivial))))
  · have h := yb_ifn c16 h
    refine n_iload dX12_move_104 rfl ?_
    refine n_iconst (-1 : Int32) dX12_move_106 ic_m1 ?_
    refine n_icmp_eq 120 dX12_move_107 (by decide) (fun c19 => ?_) (fun c19 => ?_)
    · have h := yb_ifp c19 h
      exact p_jump (tj_X12_move_120 h) (And.intro rfl (And.intro rfl (And.intro rfl (And.intro rfl trivial))))
    · have h := yb_ifn c19 h
      refine n_aload_n (i := 0) dX12_move_110 rfl rfl ?_
      refine n_iload dX12_move_111 rfl ?_
      refine n_iload_n (i := 1) dX12_move_113 rfl rfl ?_
      obtain ⟨q20, hq20, h⟩ := yb_bind h
      refine p_callVi (As := [.int x4, .int x1]) (t_X12_wants hq20) cv_X12_476 (sh_176 _ _) rfl rfl (Nat.le_of_ble_eq_true rfl) dX12_move_114 (yb_rok (Nat.le_of_ble_eq_true rfl) (by decide)) ⟨rfl, rfl⟩ ⟨Nat.le_refl _, Nat.le_refl _⟩ (fun k21 => ?_)
      refine n_if_ne 123 dX12_move_117 (by decide) (fun c22 => ?_) (fun c22 => ?_)
      · have h := yb_ifn c22 h
        exact p_jump (tj_X12_move_123 h) (And.intro rfl (And.intro rfl (And.intro rfl (And.intro rfl trivial))))
      · have h := yb_ifp c22 h
        exact p_jump (tj_X12_move_120 h) (And.intro rfl (And.intro rfl (And.intro rfl (And.intro rfl trivial))))
set_option maxHeartbeats 4000000 in
set_option maxRecDepth 20000 in
theorem tj_X12_move_92 {G : yb_G} {X : List (FieldType × Nat)} {x1 : Int32} {x2 : Int32} {x3 : Int32} {x4 : Int32} {s : yb_S} {out : (Int32 × yb_S)} (h : j_X12_move_92 x1 x2 x3 x4 s = some out) : Rn G RX12 cX12_move 6 (Option.some .int) false (yb_rm 9) (yb_qi X out.2 out.1) 0 0 92 [some (.ref (yb_ad G 176)), some (.int x1), some (.int x2), some (.int x3), some (.int x4), none] [] (yb_mk s X) := by
  unfold j_X12_move_92 at h
  refine n_iconst (0 : Int32) dX12_move_92 ic_0 ?_
  exact p_jump (tj_X12_move_93 h) (And.intro rfl (And.intro rfl (And.intro rfl (And.intro rfl (And.intro rfl trivial)))))
set_option maxHeartbeats 4000000 in
set_option maxRecDepth 20000 in
theorem tj_X12_move_71 {G : yb_G} {X : List (FieldType × Nat)} {x1 : Int32} {x2 : Int32} {x3 : Int32} {y0 : Int32} {s : yb_S} {out : (Int32 × yb_S)} (h : j_X12_move_71 x1 x2 x3 y0 s = some out) : Rn G RX12 cX12_move 6 (Option.some .int) false (yb_rm 9) (yb_qi X out.2 out.1) 0 0 71 [some (.ref (yb_ad G 176)), some (.int x1), some (.int x2), some (.int x3), none, none] [.int y0] (yb_mk s X) := by
  unfold j_X12_move_71 at h
  refine n_istore (i := 4) (vs' := [some (.ref (yb_ad G 176)), some (.int x1), some (.int x2), some (.int x3), some (.int y0), none]) dX12_move_71 (Nat.le_of_ble_eq_true rfl) rfl rfl ?_
  refine n_aload_n (i := 0) dX12_move_73 rfl rfl ?_
  refine p_getr fl_X12_51 (sh_176 _ _) rfl (rR_176_17 _ _) dX12_move_74 ?_
  refine n_iload_n (i := 1) dX12_move_77 rfl rfl ?_
  obtain ⟨v12, hv12, h⟩ := yb_bind h
  refine p_iald hv12 (sh_190 _ _) dX12_move_78 ?_
  refine n_if_le 92 dX12_move_79 (by decide) (fun c13 => ?_) (fun c13 => ?_)
  · have h := yb_ifp c13 h
    exact p_jump (tj_X12_move_92 h) (And.intro rfl (And.intro rfl (And.intro rfl (And.intro rfl (And.intro rfl trivial)))))
  · have h := yb_ifn c13 h
    refine n_iload_n (i := 3) dX12_move_82 rfl rfl ?_
    refine n_iload dX12_move_83 rfl ?_
    refine n_icmp_eq 92 dX12_move_85 (by decide) (fun c23 => ?_) (fun c23 => ?_)
    · have h := yb_ifp c23 h
      exact p_jump (tj_X12_move_92 h) (And.intro rfl (And.intro rfl (And.intro rfl (And.intro rfl (And.intro rfl trivial)))))
    · have h := yb_ifn c23 h
      refine n_iconst (1 : Int32) dX12_move_88 ic_1 ?_
      refine n_goto 93 dX12_move_89 (by decide) ?_
      exact p_jump (tj_X12_move_93 h) (And.intro rfl (And.intro rfl (And.intro rfl (And.intro rfl (And.intro rfl trivial)))))
set_option maxHeartbeats 4000000 in
set_option maxRecDepth 20000 in
theorem tj_X12_move_50 {G : yb_G} {X : List (FieldType × Nat)} {x1 : Int32} {x2 : Int32} {s : yb_S} {out : (Int32 × yb_S)} (h : j_X12_move_50 x1 x2 s = some out) : Rn G RX12 cX12_move 6 (Option.some .int) false (yb_rm 9) (yb_qi X out.2 out.1) 0 0 50 [some (.ref (yb_ad G 176)), some (.int x1), some (.int x2), none, none, none] [] (yb_mk s X) := by
  unfold j_X12_move_50 at h
  refine n_aload_n (i := 0) dX12_move_50 rfl rfl ?_
  refine n_iload_n (i := 1) dX12_move_51 rfl rfl ?_
  obtain ⟨q8, hq8, h⟩ := yb_bind h
  refine p_callVi (As := [.int x1]) (t_X12_townFor hq8) cv_X12_458 (sh_176 _ _) rfl rfl (Nat.le_of_ble_eq_true rfl) dX12_move_52 (yb_rok (Nat.le_of_ble_eq_true rfl) (by decide)) ⟨rfl, rfl⟩ ⟨Nat.le_refl _, Nat.le_refl _⟩ (fun k9 => ?_)
  refine n_istore_n (i := 3) (vs' := [some (.ref (yb_ad G 176)), some (.int x1), some (.int x2), some (.int q8), none, none]) dX12_move_55 rfl (Nat.le_of_ble_eq_true rfl) rfl rfl ?_
  refine n_iload_n (i := 2) dX12_move_56 rfl rfl ?_
  refine n_iconst (-1 : Int32) dX12_move_57 ic_m1 ?_
  refine n_icmp_ne 65 dX12_move_58 (by decide) (fun c10 => ?_) (fun c10 => ?_)
  · have h := yb_ifn c10 h
    refine n_aload_n (i := 0) dX12_move_65 rfl rfl ?_
    refine p_getr fl_X12_30 (sh_176 _ _) rfl (rR_176_9 _ _) dX12_move_66 ?_
    refine n_iload_n (i := 2) dX12_move_69 rfl rfl ?_
    obtain ⟨v11, hv11, h⟩ := yb_bind h
    refine p_iald hv11 (sh_183 _ _) dX12_move_70 ?_
    exact p_jump (tj_X12_move_71 h) (And.intro rfl (And.intro rfl (And.intro rfl (And.intro rfl trivial))))
  · have h := yb_ifp c10 h
    refine n_iconst (-1 : Int32) dX12_move_61 ic_m1 ?_
    refine n_goto 71 dX12_move_62 (by decide) ?_
    exact p_jump (tj_X12_move_71 h) (And.intro rfl (And.intro rfl (And.intro rfl (And.intro rfl trivial))))
set_option maxHeartbeats 4000000 in
set_option maxRecDepth 20000 in
theorem t_X12_move {G : yb_G} {X : List (FieldType × Nat)} {a1 : Int32} {a2 : Int32} {s : yb_S} {out : (Int32 × yb_S)} (h : f_X12_move a1 a2 s = some out) : Ct G yX12_move cX12_move 6 (Option.some .int) (yb_rm 9) [.ref (yb_ad G 176), .int a1, .int a2] (yb_mk s X) (yb_qi X out.2 out.1) := by
  refine Ct.of (own := RX12) (ini := false) (vs := [some (.ref (yb_ad G 176)), some (.int a1), some (.int a2), none, none, none]) ⟨rfl, by decide +kernel⟩ (fun h => by cases h) (Nat.le_of_ble_eq_true rfl) rfl ?_
  unfold f_X12_move at h
  refine n_aload_n (i := 0) dX12_move_0 rfl rfl ?_
  refine n_iload_n (i := 1) dX12_move_1 rfl rfl ?_
  obtain ⟨q1, hq1, h⟩ := yb_bind h
  refine p_callVi (As := [.int a1]) (t_X12_isFamily hq1) cv_X12_282 (sh_176 _ _) rfl rfl (Nat.le_of_ble_eq_true rfl) dX12_move_2 (yb_rok (Nat.le_of_ble_eq_true rfl) (by decide)) ⟨rfl, rfl⟩ ⟨Nat.le_refl _, Nat.le_refl _⟩ (fun k2 => ?_)
  refine n_if_eq 48 dX12_move_5 (by decide) (fun c3 => ?_) (fun c3 => ?_)
  · have h := yb_ifp c3 h
    refine n_iconst (-1 : Int32) dX12_move_48 ic_m1 ?_
    cases h
    exact n_iret dX12_move_49 rfl rfl (Nat.le_refl _) (Nat.le_refl _) ⟨rfl, rfl⟩
  · have h := yb_ifn c3 h
    refine n_aload_n (i := 0) dX12_move_8 rfl rfl ?_
    refine n_iload_n (i := 1) dX12_move_9 rfl rfl ?_
    obtain ⟨q4, hq4, h⟩ := yb_bind h
    refine p_callVi (As := [.int a1]) (t_X12_isHoused hq4) cv_X12_287 (sh_176 _ _) rfl rfl (Nat.le_of_ble_eq_true rfl) dX12_move_10 (yb_rok (Nat.le_of_ble_eq_true rfl) (by decide)) ⟨rfl, rfl⟩ ⟨Nat.le_refl _, Nat.le_refl _⟩ (fun k5 => ?_)
    refine n_if_eq 48 dX12_move_13 (by decide) (fun c6 => ?_) (fun c6 => ?_)
    · have h := yb_ifp c6 h
      refine n_iconst (-1 : Int32) dX12_move_48 ic_m1 ?_
      cases h
      exact n_iret dX12_move_49 rfl rfl (Nat.le_refl _) (Nat.le_refl _) ⟨rfl, rfl⟩
    · have h := yb_ifn c6 h
      refine n_iload_n (i := 2) dX12_move_16 rfl rfl ?_
      refine n_iconst (-1 : Int32) dX12_move_17 ic_m1 ?_
      refine n_icmp_eq 50 dX12_move_18 (by decide) (fun c7 => ?_) (fun c7 => ?_)
      · have h := yb_ifp c7 h
        exact p_jump (tj_X12_move_50 h) (And.intro rfl (And.intro rfl (And.intro rfl trivial)))
      · have h := yb_ifn c7 h
        refine n_aload_n (i := 0) dX12_move_21 rfl rfl ?_
        refine n_iload_n (i := 2) dX12_move_22 rfl rfl ?_
        obtain ⟨q24, hq24, h⟩ := yb_bind h
        refine p_callVi (As := [.int a2]) (t_X12_isHome hq24) cv_X12_506 (sh_176 _ _) rfl rfl (Nat.le_of_ble_eq_true rfl) dX12_move_23 (yb_rok (Nat.le_of_ble_eq_true rfl) (by decide)) ⟨rfl, rfl⟩ ⟨Nat.le_refl _, Nat.le_refl _⟩ (fun k25 => ?_)
        refine n_if_eq 48 dX12_move_26 (by decide) (fun c26 => ?_) (fun c26 => ?_)
        · have h := yb_ifp c26 h
          refine n_iconst (-1 : Int32) dX12_move_48 ic_m1 ?_
          cases h
          exact n_iret dX12_move_49 rfl rfl (Nat.le_refl _) (Nat.le_refl _) ⟨rfl, rfl⟩
        · have h := yb_ifn c26 h
          refine n_iload_n (i := 2) dX12_move_29 rfl rfl ?_
          refine n_aload_n (i := 0) dX12_move_30 rfl rfl ?_
          refine p_getr fl_X12_69 (sh_176 _ _) rfl (rR_176_23 _ _) dX12_move_31 ?_
          refine n_iload_n (i := 1) dX12_move_34 rfl rfl ?_
          obtain ⟨v27, hv27, h⟩ := yb_bind h
          refine p_iald hv27 (sh_196 _ _) dX12_move_35 ?_
          refine n_icmp_eq 48 dX12_move_36 (by decide) (fun c28 => ?_) (fun c28 => ?_)
          · have h := yb_ifp c28 h
            refine n_iconst (-1 : Int32) dX12_move_48 ic_m1 ?_
            cases h
            exact n_iret dX12_move_49 rfl rfl (Nat.le_refl _) (Nat.le_refl _) ⟨rfl, rfl⟩
          · have h := yb_ifn c28 h
            refine n_aload_n (i := 0) dX12_move_39 rfl rfl ?_
            refine n_iload_n (i := 1) dX12_move_40 rfl rfl ?_
            refine n_iload_n (i := 2) dX12_move_41 rfl rfl ?_
            obtain ⟨q29, hq29, h⟩ := yb_bind h
            refine p_callVi (As := [.int a1, .int a2]) (t_X12_barOf hq29) cv_X12_509 (sh_176 _ _) rfl rfl (Nat.le_of_ble_eq_true rfl) dX12_move_42 (yb_rok (Nat.le_of_ble_eq_true rfl) (by decide)) ⟨rfl, rfl⟩ ⟨Nat.le_refl _, Nat.le_refl _⟩ (fun k30 => ?_)
            refine n_if_eq 50 dX12_move_45 (by decide) (fun c31 => ?_) (fun c31 => ?_)
            · have h := yb_ifp c31 h
              exact p_jump (tj_X12_move_50 h) (And.intro rfl (And.intro rfl (And.intro rfl trivial)))
            · have h := yb_ifn c31 h
              refine n_iconst (-1 : Int32) dX12_move_48 ic_m1 ?_
              cases h
              exact n_iret dX12_move_49 rfl rfl (Nat.le_refl _) (Nat.le_refl _) ⟨rfl, rfl⟩
set_option maxHeartbeats 4000000 in
set_option maxRecDepth 20000 in
theorem tj_X12_mutual_55 {G : yb_G} {X : List (FieldType × Nat)} {rc14 : (Int32 → Int32 → yb_S → Option (Int32 × yb_S))} {x1 : Int32} {x3 : Int32} {y0 : Int32} {y1 : Int32} {s : yb_S} {out : (Int32 × yb_S)} (hrc14 : ∀ (x2' : Int32) (x3' : Int32) (s' : yb_S), rc14 x2' x3' s' = some out → Rn G RX12 cX12_mutual 4 (Option.some .int) false (yb_rm 5) (yb_qi X out.2 out.1) 0 0 14 [some (.ref (yb_ad G 176)), some (.int x1), some (.int x2'), some (.int x3')] [] (yb_mk s' X)) (h : j_X12_mutual_55 rc14 x1 x3 y0 y1 s = some out) : Rn G RX12 cX12_mutual 4 (Option.some .int) false (yb_rm 5) (yb_qi X out.2 out.1) 0 0 55 [some (.ref (yb_ad G 176)), some (.int x1), none, some (.int x3)] [.int y0, .int y1] (yb_mk s X) := by
  unfold j_X12_mutual_55 at h
  refine n_ior dX12_mutual_55 ?_
  refine n_istore_n (i := 2) (vs' := [some (.ref (yb_ad G 176)), some (.int x1), some (.int (y1 ||| y0)), some (.int x3)]) dX12_mutual_56 rfl (Nat.le_of_ble_eq_true rfl) rfl rfl ?_
  refine n_iinc (vs' := [some (.ref (yb_ad G 176)), some (.int x1), some (.int (y1 ||| y0)), some (.int (x3 + (1 : Int32)))]) dX12_mutual_57 rfl (ii_1 _) (Nat.le_of_ble_eq_true rfl) rfl rfl ?_
  refine n_goto 14 dX12_mutual_60 (by decide) ?_
  exact p_jump (hrc14 (y1 ||| y0) (x3 + (1 : Int32)) s h) (And.intro rfl (And.intro rfl (And.intro rfl (And.intro rfl trivial))))
set_option maxHeartbeats 4000000 in
set_option maxRecDepth 20000 in
theorem tj_X12_mutual_54 {G : yb_G} {X : List (FieldType × Nat)} {rc14 : (Int32 → Int32 → yb_S → Option (Int32 × yb_S))} {x1 : Int32} {x3 : Int32} {y0 : Int32} {s : yb_S} {out : (Int32 × yb_S)} (hrc14 : ∀ (x2' : Int32) (x3' : Int32) (s' : yb_S), rc14 x2' x3' s' = some out → Rn G RX12 cX12_mutual 4 (Option.some .int) false (yb_rm 5) (yb_qi X out.2 out.1) 0 0 14 [some (.ref (yb_ad G 176)), some (.int x1), some (.int x2'), some (.int x3')] [] (yb_mk s' X)) (h : j_X12_mutual_54 rc14 x1 x3 y0 s = some out) : Rn G RX12 cX12_mutual 4 (Option.some .int) false (yb_rm 5) (yb_qi X out.2 out.1) 0 0 54 [some (.ref (yb_ad G 176)), some (.int x1), none, some (.int x3)] [.int y0] (yb_mk s X) := by
  unfold j_X12_mutual_54 at h
  refine n_iconst (0 : Int32) dX12_mutual_54 ic_0 ?_
  exact p_jump (tj_X12_mutual_55 hrc14 h) (And.intro rfl (And.intro rfl (And.intro rfl trivial)))
set_option maxHeartbeats 4000000 in
set_option maxRecDepth 20000 in
theorem t_l_X12_mutual_14 {G : yb_G} {X : List (FieldType × Nat)} {x1 : Int32} {out : (Int32 × yb_S)} : ∀ (k0 : Nat) (x2 : Int32) (x3 : Int32) (s : yb_S), l_X12_mutual_14 x1 k0 x2 x3 s = some out → Rn G RX12 cX12_mutual 4 (Option.some .int) false (yb_rm 5) (yb_qi X out.2 out.1) 0 0 14 [some (.ref (yb_ad G 176)), some (.int x1), some (.int x2), some (.int x3)] [] (yb_mk s X) := by
  intro k0
  induction k0 with
  | zero => intro x2 x3 s h; cases h
  | succ k0 ih =>
    intro x2 x3 s h
    have h : f_X12_mutual_14 (fun x2 x3 s => l_X12_mutual_14 x1 k0 x2 x3 s) x1 x2 x3 s = some out := h
    have hrc14 := ih
    unfold f_X12_mutual_14 at h
    refine n_iload_n (i := 3) dX12_mutual_14 rfl rfl ?_
    refine n_aload_n (i := 0) dX12_mutual_15 rfl rfl ?_
    refine p_geti fl_X12_254 (sh_176 _ _) rfl dX12_mutual_16 ?_
    refine n_icmp_ge 63 dX12_mutual_19 (by decide) (fun c4 => ?_) (fun c4 => ?_)
    · have h := yb_ifp c4 h
      refine n_iload_n (i := 2) dX12_mutual_63 rfl rfl ?_
      cases h
      exact n_iret dX12_mutual_64 rfl rfl (Nat.le_refl _) (Nat.le_refl _) ⟨rfl, rfl⟩
    · have h := yb_ifn c4 h
      refine n_iload_n (i := 2) dX12_mutual_22 rfl rfl ?_
      refine n_iload_n (i := 3) dX12_mutual_23 rfl rfl ?_
      refine n_iload_n (i := 1) dX12_mutual_24 rfl rfl ?_
      refine n_icmp_eq 54 dX12_mutual_25 (by decide) (fun c5 => ?_) (fun c5 => ?_)
      · have h := yb_ifp c5 h
        exact p_jump (tj_X12_mutual_54 hrc14 h) (And.intro rfl (And.intro rfl (And.intro rfl trivial)))
      · have h := yb_ifn c5 h
        refine n_aload_n (i := 0) dX12_mutual_28 rfl rfl ?_
        refine n_iload_n (i := 1) dX12_mutual_29 rfl rfl ?_
        refine n_iload_n (i := 3) dX12_mutual_30 rfl rfl ?_
        obtain ⟨q6, hq6, h⟩ := yb_bind h
        refine p_callVi (As := [.int x1, .int x3]) (t_X12_surely hq6) cv_X12_337 (sh_176 _ _) rfl rfl (Nat.le_of_ble_eq_true rfl) dX12_mutual_31 (yb_rok (Nat.le_of_ble_eq_true rfl) (by decide)) ⟨rfl, rfl⟩ ⟨Nat.le_refl _, Nat.le_refl _⟩ (fun k7 => ?_)
        refine n_iconst (-1 : Int32) dX12_mutual_34 ic_m1 ?_
        refine n_icmp_eq 54 dX12_mutual_35 (by decide) (fun c8 => ?_) (fun c8 => ?_)
        · have h := yb_ifp c8 h
          exact p_jump (tj_X12_mutual_54 hrc14 h) (And.intro rfl (And.intro rfl (And.intro rfl trivial)))
        · have h := yb_ifn c8 h
          refine n_aload_n (i := 0) dX12_mutual_38 rfl rfl ?_
          refine n_iload_n (i := 3) dX12_mutual_39 rfl rfl ?_
          refine n_iload_n (i := 1) dX12_mutual_40 rfl rfl ?_
          obtain ⟨q9, hq9, h⟩ := yb_bind h
          refine p_callVi (As := [.int x3, .int x1]) (t_X12_surely hq9) cv_X12_337 (sh_176 _ _) rfl rfl (Nat.le_of_ble_eq_true rfl) dX12_mutual_41 (yb_rok (Nat.le_of_ble_eq_true rfl) (by decide)) ⟨rfl, rfl⟩ ⟨Nat.le_refl _, Nat.le_refl _⟩ (fun k10 => ?_)
          refine n_iconst (-1 : Int32) dX12_mutual_44 ic_m1 ?_
          refine n_icmp_eq 54 dX12_mutual_45 (by decide) (fun c11 => ?_) (fun c11 => ?_)
          · have h := yb_ifp c11 h
            exact p_jump (tj_X12_mutual_54 hrc14 h) (And.intro rfl (And.intro rfl (And.intro rfl trivial)))
          · have h := yb_ifn c11 h
            refine n_iconst (1 : Int32) dX12_mutual_48 ic_1 ?_
            refine n_iload_n (i := 3) dX12_mutual_49 rfl rfl ?_
            refine n_ishl dX12_mutual_50 ?_
            refine n_goto 55 dX12_mutual_51 (by decide) ?_
            exact p_jump (tj_X12_mutual_55 hrc14 h) (And.intro rfl (And.intro rfl (And.intro rfl trivial)))
set_option maxHeartbeats 4000000 in
set_option maxRecDepth 20000 in
theorem tl_X12_mutual_14 {G : yb_G} {X : List (FieldType × Nat)} {x1 : Int32} {out : (Int32 × yb_S)} {x2 : Int32} {x3 : Int32} {s : yb_S} (h : l_X12_mutual_14 x1 yb_N x2 x3 s = some out) : Rn G RX12 cX12_mutual 4 (Option.some .int) false (yb_rm 5) (yb_qi X out.2 out.1) 0 0 14 [some (.ref (yb_ad G 176)), some (.int x1), some (.int x2), some (.int x3)] [] (yb_mk s X) := t_l_X12_mutual_14 _ _ _ _ h
set_option maxHeartbeats 4000000 in
set_option maxRecDepth 20000 in
theorem t_X12_mutual {G : yb_G} {X : List (FieldType × Nat)} {a1 : Int32} {s : yb_S} {out : (Int32 × yb_S)} (h : f_X12_mutual a1 s = some out) : Ct G yX12_mutual cX12_mutual 4 (Option.some .int) (yb_rm 5) [.ref (yb_ad G 176), .int a1] (yb_mk s X) (yb_qi X out.2 out.1) := by
  refine Ct.of (own := RX12) (ini := false) (vs := [some (.ref (yb_ad G 176)), some (.int a1), none, none]) ⟨rfl, by decide +kernel⟩ (fun h => by cases h) (Nat.le_of_ble_eq_true rfl) rfl ?_
  unfold f_X12_mutual at h
  refine n_aload_n (i := 0) dX12_mutual_0 rfl rfl ?_
  refine n_iload_n (i := 1) dX12_mutual_1 rfl rfl ?_
  obtain ⟨q1, hq1, h⟩ := yb_bind h
  refine p_callVi (As := [.int a1]) (t_X12_isFamily hq1) cv_X12_282 (sh_176 _ _) rfl rfl (Nat.le_of_ble_eq_true rfl) dX12_mutual_2 (yb_rok (Nat.le_of_ble_eq_true rfl) (by decide)) ⟨rfl, rfl⟩ ⟨Nat.le_refl _, Nat.le_refl _⟩ (fun k2 => ?_)
  refine n_if_ne 10 dX12_mutual_5 (by decide) (fun c3 => ?_) (fun c3 => ?_)
  · have h := yb_ifn c3 h
    refine n_iconst (0 : Int32) dX12_mutual_10 ic_0 ?_
    refine n_istore_n (i := 2) (vs' := [some (.ref (yb_ad G 176)), some (.int a1), some (.int (0 : Int32)), none]) dX12_mutual_11 rfl (Nat.le_of_ble_eq_true rfl) rfl rfl ?_
    refine n_iconst (0 : Int32) dX12_mutual_12 ic_0 ?_
    refine n_istore_n (i := 3) (vs' := [some (.ref (yb_ad G 176)), some (.int a1), some (.int (0 : Int32)), some (.int (0 : Int32))]) dX12_mutual_13 rfl (Nat.le_of_ble_eq_true rfl) rfl rfl ?_
    exact p_jump (tl_X12_mutual_14 h) (And.intro rfl (And.intro rfl (And.intro rfl (And.intro rfl trivial))))
  · have h := yb_ifp c3 h
    refine n_iconst (-1 : Int32) dX12_mutual_8 ic_m1 ?_
    cases h
    exact n_iret dX12_mutual_9 rfl rfl (Nat.le_refl _) (Nat.le_refl _) ⟨rfl, rfl⟩
set_option maxHeartbeats 4000000 in
set_option maxRecDepth 20000 in
theorem tj_X12_part_55 {G : yb_G} {X : List (FieldType × Nat)} {rc26 : (Int32 → yb_S → Option (Int32 × yb_S))} {x2 : Int32} {x3 : Int32} {x4 : Int32} {s : yb_S} {out : (Int32 × yb_S)} (hrc26 : ∀ (x4' : Int32) (s' : yb_S), rc26 x4' s' = some out → Rn G RX12 cX12_part 5 (Option.some .int) false (yb_rm 3) (yb_qi X out.2 out.1) 0 0 26 [some (.ref (yb_ad G 176)), none, some (.int x2), some (.int x3), some (.int x4')] [] (yb_mk s' X)) (h : j_X12_part_55 rc26 x2 x3 x4 s = some out) : Rn G RX12 cX12_part 5 (Option.some .int) false (yb_rm 3) (yb_qi X out.2 out.1) 0 0 55 [some (.ref (yb_ad G 176)), none, some (.int x2), some (.int x3), some (.int x4)] [] (yb_mk s X) := by
  unfold j_X12_part_55 at h
  refine n_iinc (vs' := [some (.ref (yb_ad G 176)), none, some (.int x2), some (.int x3), some (.int (x4 + (1 : Int32)))]) dX12_part_55 rfl (ii_1 _) (Nat.le_of_ble_eq_true rfl) rfl rfl ?_
  refine n_goto 26 dX12_part_58 (by decide) ?_
  exact p_jump (hrc26 (x4 + (1 : Int32)) s h) (And.intro rfl (And.intro rfl (And.intro rfl (And.intro rfl trivial))))
set_option maxHeartbeats 4000000 in
set_option maxRecDepth 20000 in
theorem t_l_X12_part_26 {G : yb_G} {X : List (FieldType × Nat)} {x2 : Int32} {x3 : Int32} {out : (Int32 × yb_S)} : ∀ (k0 : Nat) (x4 : Int32) (s : yb_S), l_X12_part_26 x2 x3 k0 x4 s = some out → Rn G RX12 cX12_part 5 (Option.some .int) false (yb_rm 3) (yb_qi X out.2 out.1) 0 0 26 [some (.ref (yb_ad G 176)), none, some (.int x2), some (.int x3), some (.int x4)] [] (yb_mk s X) := by
  intro k0
  induction k0 with
  | zero => intro x4 s h; cases h
  | succ k0 ih =>
    intro x4 s h
    have h : f_X12_part_26 (fun x4 s => l_X12_part_26 x2 x3 k0 x4 s) x2 x3 x4 s = some out := h
    have hrc26 := ih
    unfold f_X12_part_26 at h
    refine n_iload dX12_part_26 rfl ?_
    refine n_aload_n (i := 0) dX12_part_28 rfl rfl ?_
    refine p_geti fl_X12_290 (sh_176 _ _) rfl dX12_part_29 ?_
    refine n_icmp_ge 61 dX12_part_32 (by decide) (fun c7 => ?_) (fun c7 => ?_)
    · have h := yb_ifp c7 h
      refine n_aload_n (i := 0) dX12_part_61 rfl rfl ?_
      refine n_iconst (0 : Int32) dX12_part_62 ic_0 ?_
      obtain ⟨s8, hs8, h⟩ := yb_bind h
      refine p_puti hs8 fp_X12_278 (sh_176 _ _) rfl rfl rfl dX12_part_63 ?_
      refine n_iload_n (i := 3) dX12_part_66 rfl rfl ?_
      cases h
      exact n_iret dX12_part_67 rfl rfl (Nat.le_refl _) (Nat.le_refl _) ⟨rfl, rfl⟩
    · have h := yb_ifn c7 h
      refine n_aload_n (i := 0) dX12_part_35 rfl rfl ?_
      refine p_getr fl_X12_104 (sh_176 _ _) rfl (rR_176_35 _ _) dX12_part_36 ?_
      refine n_iload dX12_part_39 rfl ?_
      obtain ⟨v9, hv9, h⟩ := yb_bind h
      refine p_iald hv9 (sh_213 _ _) dX12_part_41 ?_
      refine n_iload_n (i := 2) dX12_part_42 rfl rfl ?_
      refine n_icmp_ne 55 dX12_part_43 (by decide) (fun c10 => ?_) (fun c10 => ?_)
      · have h := yb_ifn c10 h
        exact p_jump (tj_X12_part_55 hrc26 h) (And.intro rfl (And.intro rfl (And.intro rfl (And.intro rfl trivial))))
      · have h := yb_ifp c10 h
        refine n_aload_n (i := 0) dX12_part_46 rfl rfl ?_
        refine p_getr fl_X12_104 (sh_176 _ _) rfl (rR_176_35 _ _) dX12_part_47 ?_
        refine n_iload dX12_part_50 rfl ?_
        refine n_iload dX12_part_52 rfl ?_
        obtain ⟨s11, hs11, h⟩ := yb_bind h
        refine p_iast hs11 (sh_213 _ _) dX12_part_54 ?_
        exact p_jump (tj_X12_part_55 hrc26 h) (And.intro rfl (And.intro rfl (And.intro rfl (And.intro rfl trivial))))
set_option maxHeartbeats 4000000 in
set_option maxRecDepth 20000 in
theorem tl_X12_part_26 {G : yb_G} {X : List (FieldType × Nat)} {x2 : Int32} {x3 : Int32} {out : (Int32 × yb_S)} {x4 : Int32} {s : yb_S} (h : l_X12_part_26 x2 x3 yb_N x4 s = some out) : Rn G RX12 cX12_part 5 (Option.some .int) false (yb_rm 3) (yb_qi X out.2 out.1) 0 0 26 [some (.ref (yb_ad G 176)), none, some (.int x2), some (.int x3), some (.int x4)] [] (yb_mk s X) := t_l_X12_part_26 _ _ _ h
set_option maxHeartbeats 4000000 in
set_option maxRecDepth 20000 in
theorem t_X12_part {G : yb_G} {X : List (FieldType × Nat)} {a1 : Int32} {s : yb_S} {out : (Int32 × yb_S)} (h : f_X12_part a1 s = some out) : Ct G yX12_part cX12_part 5 (Option.some .int) (yb_rm 3) [.ref (yb_ad G 176), .int a1] (yb_mk s X) (yb_qi X out.2 out.1) := by
  refine Ct.of (own := RX12) (ini := false) (vs := [some (.ref (yb_ad G 176)), some (.int a1), none, none, none]) ⟨rfl, by decide +kernel⟩ (fun h => by cases h) (Nat.le_of_ble_eq_true rfl) rfl ?_
  unfold f_X12_part at h
  refine n_aload_n (i := 0) dX12_part_0 rfl rfl ?_
  refine n_iload_n (i := 1) dX12_part_1 rfl rfl ?_
  obtain ⟨q1, hq1, h⟩ := yb_bind h
  refine p_callVi (As := [.int a1]) (t_X12_isRecord hq1) cv_X12_307 (sh_176 _ _) rfl rfl (Nat.le_of_ble_eq_true rfl) dX12_part_2 (yb_rok (Nat.le_of_ble_eq_true rfl) (by decide)) ⟨rfl, rfl⟩ ⟨Nat.le_refl _, Nat.le_refl _⟩ (fun k2 => ?_)
  refine n_if_ne 10 dX12_part_5 (by decide) (fun c3 => ?_) (fun c3 => ?_)
  · have h := yb_ifn c3 h
    refine n_aload_n (i := 0) dX12_part_10 rfl rfl ?_
    refine p_getr fl_X12_104 (sh_176 _ _) rfl (rR_176_35 _ _) dX12_part_11 ?_
    refine n_iload_n (i := 1) dX12_part_14 rfl rfl ?_
    obtain ⟨v4, hv4, h⟩ := yb_bind h
    refine p_iald hv4 (sh_213 _ _) dX12_part_15 ?_
    refine n_istore_n (i := 2) (vs' := [some (.ref (yb_ad G 176)), some (.int a1), some (.int v4), none, none]) dX12_part_16 rfl (Nat.le_of_ble_eq_true rfl) rfl rfl ?_
    refine n_aload_n (i := 0) dX12_part_17 rfl rfl ?_
    refine n_iload_n (i := 2) dX12_part_18 rfl rfl ?_
    obtain ⟨q5, hq5, h⟩ := yb_bind h
    refine p_callVi (As := [.int v4]) (t_X12_heapSize hq5) cv_X12_325 (sh_176 _ _) rfl rfl (Nat.le_of_ble_eq_true rfl) dX12_part_19 (yb_rok (Nat.le_of_ble_eq_true rfl) (by decide)) ⟨rfl, rfl⟩ ⟨Nat.le_refl _, Nat.le_refl _⟩ (fun k6 => ?_)
    refine n_istore_n (i := 3) (vs' := [some (.ref (yb_ad G 176)), some (.int a1), some (.int v4), some (.int q5), none]) dX12_part_22 rfl (Nat.le_of_ble_eq_true rfl) rfl rfl ?_
    refine n_iconst (0 : Int32) dX12_part_23 ic_0 ?_
    refine n_istore (i := 4) (vs' := [some (.ref (yb_ad G 176)), some (.int a1), some (.int v4), some (.int q5), some (.int (0 : Int32))]) dX12_part_24 (Nat.le_of_ble_eq_true rfl) rfl rfl ?_
    exact p_jump (tl_X12_part_26 h) (And.intro rfl (And.intro rfl (And.intro rfl (And.intro rfl trivial))))
  · have h := yb_ifp c3 h
    refine n_iconst (-1 : Int32) dX12_part_8 ic_m1 ?_
    cases h
    exact n_iret dX12_part_9 rfl rfl (Nat.le_refl _) (Nat.le_refl _) ⟨rfl, rfl⟩
set_option maxHeartbeats 4000000 in
set_option maxRecDepth 20000 in
theorem t_X12_passed {G : yb_G} {X : List (FieldType × Nat)} {a1 : Int32} {a2 : Int32} {s : yb_S} {out : Int32} (h : f_X12_passed a1 a2 s = some out) : Ct G yX12_passed cX12_passed 3 (Option.some .int) (yb_rm 3) [.ref (yb_ad G 176), .int a1, .int a2] (yb_mk s X) (yb_qi X s out) := by
  refine Ct.of (own := RX12) (ini := false) (vs := [some (.ref (yb_ad G 176)), some (.int a1), some (.int a2)]) ⟨rfl, by decide +kernel⟩ (fun h => by cases h) (Nat.le_of_ble_eq_true rfl) rfl ?_
  unfold f_X12_passed at h
  refine n_aload_n (i := 0) dX12_passed_0 rfl rfl ?_
  refine n_iload_n (i := 1) dX12_passed_1 rfl rfl ?_
  obtain ⟨q1, hq1, h⟩ := yb_bind h
  refine p_callVi (As := [.int a1]) (t_X12_isFamily hq1) cv_X12_282 (sh_176 _ _) rfl rfl (Nat.le_of_ble_eq_true rfl) dX12_passed_2 (yb_rok (Nat.le_of_ble_eq_true rfl) (by decide)) ⟨rfl, rfl⟩ ⟨Nat.le_refl _, Nat.le_refl _⟩ (fun k2 => ?_)
  refine n_if_eq 34 dX12_passed_5 (by decide) (fun c3 => ?_) (fun c3 => ?_)
  · have h := yb_ifp c3 h
    refine n_iconst (-1 : Int32) dX12_passed_34 ic_m1 ?_
    cases h
    exact n_iret dX12_passed_35 rfl rfl (Nat.le_refl _) (Nat.le_refl _) ⟨rfl, rfl⟩
  · have h := yb_ifn c3 h
    refine n_aload_n (i := 0) dX12_passed_8 rfl rfl ?_
    refine n_iload_n (i := 2) dX12_passed_9 rfl rfl ?_
    obtain ⟨q4, hq4, h⟩ := yb_bind h
    refine p_callVi (As := [.int a2]) (t_X12_isFamily hq4) cv_X12_282 (sh_176 _ _) rfl rfl (Nat.le_of_ble_eq_true rfl) dX12_passed_10 (yb_rok (Nat.le_of_ble_eq_true rfl) (by decide)) ⟨rfl, rfl⟩ ⟨Nat.le_refl _, Nat.le_refl _⟩ (fun k5 => ?_)
    refine n_if_eq 34 dX12_passed_13 (by decide) (fun c6 => ?_) (fun c6 => ?_)
    · have h := yb_ifp c6 h
      refine n_iconst (-1 : Int32) dX12_passed_34 ic_m1 ?_
      cases h
      exact n_iret dX12_passed_35 rfl rfl (Nat.le_refl _) (Nat.le_refl _) ⟨rfl, rfl⟩
    · have h := yb_ifn c6 h
      refine n_aload_n (i := 0) dX12_passed_16 rfl rfl ?_
      refine p_geti fl_X12_524 (sh_176 _ _) rfl dX12_passed_17 ?_
      refine n_if_eq 34 dX12_passed_20 (by decide) (fun c7 => ?_) (fun c7 => ?_)
      · have h := yb_ifp c7 h
        refine n_iconst (-1 : Int32) dX12_passed_34 ic_m1 ?_
        cases h
        exact n_iret dX12_passed_35 rfl rfl (Nat.le_refl _) (Nat.le_refl _) ⟨rfl, rfl⟩
      · have h := yb_ifn c7 h
        refine n_aload_n (i := 0) dX12_passed_23 rfl rfl ?_
        refine p_getr fl_X12_200 (sh_176 _ _) rfl (rR_176_63 _ _) dX12_passed_24 ?_
        refine n_iload_n (i := 1) dX12_passed_27 rfl rfl ?_
        obtain ⟨r8, hr8, h⟩ := yb_bind h
        refine p_aald hr8 (sh_341 _ _) (by decide) rfl (rF_341 _ _) dX12_passed_28 ?_
        refine n_iload_n (i := 2) dX12_passed_29 rfl rfl ?_
        obtain ⟨v9, hv9, h⟩ := yb_bind h
        refine p_iald hv9 (shF_341 hr8 _ _) dX12_passed_30 ?_
        refine n_goto 35 dX12_passed_31 (by decide) ?_
        cases h
        exact n_iret dX12_passed_35 rfl rfl (Nat.le_refl _) (Nat.le_refl _) ⟨rfl, rfl⟩
set_option maxHeartbeats 4000000 in
set_option maxRecDepth 20000 in
theorem t_l_X12_place_10 {G : yb_G} {X : List (FieldType × Nat)} {rc2 : (Int32 → yb_S → Option (Int32 × yb_S))} {x1 : Int32} {out : (Int32 × yb_S)} (hrc2 : ∀ (x1' : Int32) (s' : yb_S), rc2 x1' s' = some out → Rn G RX12 cX12_place 3 (Option.some .int) false (yb_rm 11) (yb_qi X out.2 out.1) 0 0 2 [some (.ref (yb_ad G 176)), some (.int x1'), none] [] (yb_mk s' X)) : ∀ (k0 : Nat) (x2 : Int32) (s : yb_S), l_X12_place_10 rc2 x1 k0 x2 s = some out → Rn G RX12 cX12_place 3 (Option.some .int) false (yb_rm 11) (yb_qi X out.2 out.1) 0 0 10 [some (.ref (yb_ad G 176)), some (.int x1), some (.int x2)] [] (yb_mk s X) := by
  intro k0
  induction k0 with
  | zero => intro x2 s h; cases h
  | succ k0 ih =>
    intro x2 s h
    have h : f_X12_place_10 rc2 (fun x2 s => l_X12_place_10 rc2 x1 k0 x2 s) x1 x2 s = some out := h
    have hrc10 := ih
    unfold f_X12_place_10 at h
    refine n_iload_n (i := 2) dX12_place_10 rfl rfl ?_
    refine n_bipush (24 : Int32) dX12_place_11 bp_24 ?_
    refine n_icmp_ge 31 dX12_place_13 (by decide) (fun c5 => ?_) (fun c5 => ?_)
    · have h := yb_ifp c5 h
      refine n_iinc (vs' := [some (.ref (yb_ad G 176)), some (.int (x1 + (1 : Int32))), some (.int x2)]) dX12_place_31 rfl (ii_1 _) (Nat.le_of_ble_eq_true rfl) rfl rfl ?_
      refine n_goto 2 dX12_place_34 (by decide) ?_
      exact p_jump (hrc2 (x1 + (1 : Int32)) s h) (And.intro rfl (And.intro rfl trivial))
    · have h := yb_ifn c5 h
      refine n_aload_n (i := 0) dX12_place_16 rfl rfl ?_
      refine p_getr fl_X12_200 (sh_176 _ _) rfl (rR_176_63 _ _) dX12_place_17 ?_
      refine n_iload_n (i := 1) dX12_place_20 rfl rfl ?_
      obtain ⟨r6, hr6, h⟩ := yb_bind h
      refine p_aald hr6 (sh_341 _ _) (by decide) rfl (rF_341 _ _) dX12_place_21 ?_
      refine n_iload_n (i := 2) dX12_place_22 rfl rfl ?_
      refine n_iconst (-1 : Int32) dX12_place_23 ic_m1 ?_
      obtain ⟨s7, hs7, h⟩ := yb_bind h
      refine p_iast hs7 (shF_341 hr6 _ _) dX12_place_24 ?_
      refine n_iinc (vs' := [some (.ref (yb_ad G 176)), some (.int x1), some (.int (x2 + (1 : Int32)))]) dX12_place_25 rfl (ii_1 _) (Nat.le_of_ble_eq_true rfl) rfl rfl ?_
      refine n_goto 10 dX12_place_28 (by decide) ?_
      exact p_jump (hrc10 (x2 + (1 : Int32)) s7 h) (And.intro rfl (And.intro rfl (And.intro rfl trivial)))
set_option maxHeartbeats 4000000 in
set_option maxRecDepth 20000 in
theorem tl_X12_place_10 {G : yb_G} {X : List (FieldType × Nat)} {rc2 : (Int32 → yb_S → Option (Int32 × yb_S))} {x1 : Int32} {out : (Int32 × yb_S)} (hrc2 : ∀ (x1' : Int32) (s' : yb_S), rc2 x1' s' = some out → Rn G RX12 cX12_place 3 (Option.some .int) false (yb_rm 11) (yb_qi X out.2 out.1) 0 0 2 [some (.ref (yb_ad G 176)), some (.int x1'), none] [] (yb_mk s' X)) {x2 : Int32} {s : yb_S} (h : l_X12_place_10 rc2 x1 yb_N x2 s = some out) : Rn G RX12 cX12_place 3 (Option.some .int) false (yb_rm 11) (yb_qi X out.2 out.1) 0 0 10 [some (.ref (yb_ad G 176)), some (.int x1), some (.int x2)] [] (yb_mk s X) := t_l_X12_place_10 hrc2 _ _ _ h
set_option maxHeartbeats 4000000 in
set_option maxRecDepth 20000 in
theorem t_l_X12_place_2 {G : yb_G} {X : List (FieldType × Nat)} {out : (Int32 × yb_S)} : ∀ (k0 : Nat) (x1 : Int32) (s : yb_S), l_X12_place_2 k0 x1 s = some out → Rn G RX12 cX12_place 3 (Option.some .int) false (yb_rm 11) (yb_qi X out.2 out.1) 0 0 2 [some (.ref (yb_ad G 176)), some (.int x1), none] [] (yb_mk s X) := by
  intro k0
  induction k0 with
  | zero => intro x1 s h; cases h
  | succ k0 ih =>
    intro x1 s h
    have h : f_X12_place_2 (fun x1 s => l_X12_place_2 k0 x1 s) x1 s = some out := h
    have hrc2 := ih
    unfold f_X12_place_2 at h
    refine n_iload_n (i := 1) dX12_place_2 rfl rfl ?_
    refine n_bipush (24 : Int32) dX12_place_3 bp_24 ?_
    refine n_icmp_ge 37 dX12_place_5 (by decide) (fun c1 => ?_) (fun c1 => ?_)
    · have h := yb_ifp c1 h
      refine n_aload_n (i := 0) dX12_place_37 rfl rfl ?_
      refine n_iconst (1 : Int32) dX12_place_38 ic_1 ?_
      obtain ⟨s2, hs2, h⟩ := yb_bind h
      refine p_puti hs2 fp_X12_524 (sh_176 _ _) rfl rfl rfl dX12_place_39 ?_
      refine n_aload_n (i := 0) dX12_place_42 rfl rfl ?_
      refine n_iconst (1 : Int32) dX12_place_43 ic_1 ?_
      obtain ⟨q3, hq3, h⟩ := yb_bind h
      refine p_callVi (As := [.int (1 : Int32)]) (t_X12_places hq3) cv_X12_527 (sh_176 _ _) rfl rfl (Nat.le_of_ble_eq_true rfl) dX12_place_44 (yb_rok (Nat.le_of_ble_eq_true rfl) (by decide)) ⟨rfl, rfl⟩ ⟨Nat.le_refl _, Nat.le_refl _⟩ (fun k4 => ?_)
      cases h
      exact n_iret dX12_place_47 rfl rfl (Nat.le_refl _) (Nat.le_refl _) ⟨rfl, rfl⟩
    · have h := yb_ifn c1 h
      refine n_iconst (0 : Int32) dX12_place_8 ic_0 ?_
      refine n_istore_n (i := 2) (vs' := [some (.ref (yb_ad G 176)), some (.int x1), some (.int (0 : Int32))]) dX12_place_9 rfl (Nat.le_of_ble_eq_true rfl) rfl rfl ?_
      exact p_jump (tl_X12_place_10 hrc2 h) (And.intro rfl (And.intro rfl (And.intro rfl trivial)))
set_option maxHeartbeats 4000000 in
set_option maxRecDepth 20000 in
theorem tl_X12_place_2 {G : yb_G} {X : List (FieldType × Nat)} {out : (Int32 × yb_S)} {x1 : Int32} {s : yb_S} (h : l_X12_place_2 yb_N x1 s = some out) : Rn G RX12 cX12_place 3 (Option.some .int) false (yb_rm 11) (yb_qi X out.2 out.1) 0 0 2 [some (.ref (yb_ad G 176)), some (.int x1), none] [] (yb_mk s X) := t_l_X12_place_2 _ _ _ h
set_option maxHeartbeats 4000000 in
set_option maxRecDepth 20000 in
theorem t_X12_place {G : yb_G} {X : List (FieldType × Nat)} {s : yb_S} {out : (Int32 × yb_S)} (h : f_X12_place s = some out) : Ct G yX12_place cX12_place 3 (Option.some .int) (yb_rm 11) [.ref (yb_ad G 176)] (yb_mk s X) (yb_qi X out.2 out.1) := by
  refine Ct.of (own := RX12) (ini := false) (vs := [some (.ref (yb_ad G 176)), none, none]) ⟨rfl, by decide +kernel⟩ (fun h => by cases h) (Nat.le_of_ble_eq_true rfl) rfl ?_
  unfold f_X12_place at h
  refine n_iconst (0 : Int32) dX12_place_0 ic_0 ?_
  refine n_istore_n (i := 1) (vs' := [some (.ref (yb_ad G 176)), some (.int (0 : Int32)), none]) dX12_place_1 rfl (Nat.le_of_ble_eq_true rfl) rfl rfl ?_
  exact p_jump (tl_X12_place_2 h) (And.intro rfl (And.intro rfl trivial))
set_option maxHeartbeats 4000000 in
set_option maxRecDepth 20000 in
theorem tj_X12_rank_35 {G : yb_G} {X : List (FieldType × Nat)} {s : yb_S} {out : (Int32 × yb_S)} (h : j_X12_rank_35 s = some out) : Rn G RX12 cX12_rank 3 (Option.some .int) false (yb_rm 5) (yb_qi X out.2 out.1) 0 0 35 [none, none, none] [] (yb_mk s X) := by
  unfold j_X12_rank_35 at h
  refine n_ldcw (-2147483648 : Int32) k_X12_314 dX12_rank_35 ?_
  cases h
  exact n_iret dX12_rank_38 rfl rfl (Nat.le_refl _) (Nat.le_refl _) ⟨rfl, rfl⟩
set_option maxHeartbeats 4000000 in
set_option maxRecDepth 20000 in
theorem tj_X12_rank_29 {G : yb_G} {X : List (FieldType × Nat)} {y0 : Int32} {y1 : Int32} {s : yb_S} {out : (Int32 × yb_S)} (h : j_X12_rank_29 y0 y1 s = some out) : Rn G RX12 cX12_rank 3 (Option.some .int) false (yb_rm 5) (yb_qi X out.2 out.1) 0 0 29 [none, none, none] [.int y0, .int y1, .ref (yb_ad G 176)] (yb_mk s X) := by
  unfold j_X12_rank_29 at h
  obtain ⟨q8, hq8, h⟩ := yb_bind h
  refine p_callVi (As := [.int y1, .int y0]) (t_X12_askedOf hq8) cv_X12_491 (sh_176 _ _) rfl rfl (Nat.le_of_ble_eq_true rfl) dX12_rank_29 (yb_rok (Nat.le_of_ble_eq_true rfl) (by decide)) ⟨rfl, rfl⟩ ⟨Nat.le_refl _, Nat.le_refl _⟩ (fun k9 => ?_)
  refine n_goto 38 dX12_rank_32 (by decide) ?_
  cases h
  exact n_iret dX12_rank_38 rfl rfl (Nat.le_refl _) (Nat.le_refl _) ⟨rfl, rfl⟩
set_option maxHeartbeats 4000000 in
set_option maxRecDepth 20000 in
theorem t_X12_rank {G : yb_G} {X : List (FieldType × Nat)} {a1 : Int32} {a2 : Int32} {s : yb_S} {out : (Int32 × yb_S)} (h : f_X12_rank a1 a2 s = some out) : Ct G yX12_rank cX12_rank 3 (Option.some .int) (yb_rm 5) [.ref (yb_ad G 176), .int a1, .int a2] (yb_mk s X) (yb_qi X out.2 out.1) := by
  refine Ct.of (own := RX12) (ini := false) (vs := [some (.ref (yb_ad G 176)), some (.int a1), some (.int a2)]) ⟨rfl, by decide +kernel⟩ (fun h => by cases h) (Nat.le_of_ble_eq_true rfl) rfl ?_
  unfold f_X12_rank at h
  refine n_aload_n (i := 0) dX12_rank_0 rfl rfl ?_
  refine n_iload_n (i := 1) dX12_rank_1 rfl rfl ?_
  obtain ⟨q1, hq1, h⟩ := yb_bind h
  refine p_callVi (As := [.int a1]) (t_X12_isFamily hq1) cv_X12_282 (sh_176 _ _) rfl rfl (Nat.le_of_ble_eq_true rfl) dX12_rank_2 (yb_rok (Nat.le_of_ble_eq_true rfl) (by decide)) ⟨rfl, rfl⟩ ⟨Nat.le_refl _, Nat.le_refl _⟩ (fun k2 => ?_)
  refine n_if_eq 35 dX12_rank_5 (by decide) (fun c3 => ?_) (fun c3 => ?_)
  · have h := yb_ifp c3 h
    exact p_jump (tj_X12_rank_35 h) trivial
  · have h := yb_ifn c3 h
    refine n_iload_n (i := 2) dX12_rank_8 rfl rfl ?_
    refine n_i2l dX12_rank_9 ?_
    refine n_lconst (0 : Int64) dX12_rank_10 rfl ?_
    refine n_lconst (1 : Int64) dX12_rank_11 rfl ?_
    obtain ⟨q4, hq4, h⟩ := yb_bind h
    refine p_callSi (As := [.long (a2.toInt64), .long (0 : Int64), .long (1 : Int64)]) (t_X12_in hq4) cs_X12_247 rfl rfl (Nat.le_of_ble_eq_true rfl) dX12_rank_12 (yb_rok (Nat.le_of_ble_eq_true rfl) (by decide)) ⟨rfl, rfl⟩ ⟨Nat.le_refl _, Nat.le_refl _⟩ (fun k5 => ?_)
    refine n_if_eq 35 dX12_rank_15 (by decide) (fun c6 => ?_) (fun c6 => ?_)
    · have h := yb_ifp c6 h
      exact p_jump (tj_X12_rank_35 h) trivial
    · have h := yb_ifn c6 h
      refine n_aload_n (i := 0) dX12_rank_18 rfl rfl ?_
      refine n_iload_n (i := 1) dX12_rank_19 rfl rfl ?_
      refine n_iload_n (i := 2) dX12_rank_20 rfl rfl ?_
      refine n_if_ne 28 dX12_rank_21 (by decide) (fun c7 => ?_) (fun c7 => ?_)
      · have h := yb_ifn c7 h
        refine n_iconst (2 : Int32) dX12_rank_28 ic_2 ?_
        exact p_jump (tj_X12_rank_29 h) trivial
      · have h := yb_ifp c7 h
        refine n_iconst (0 : Int32) dX12_rank_24 ic_0 ?_
        refine n_goto 29 dX12_rank_25 (by decide) ?_
        exact p_jump (tj_X12_rank_29 h) trivial
set_option maxHeartbeats 4000000 in
set_option maxRecDepth 20000 in
theorem tj_X12_record_59 {G : yb_G} {X : List (FieldType × Nat)} {x1 : Int32} {x2 : Int32} {x3 : Int32} {x4 : Int32} {x5 : Int32} {s : yb_S} {out : (Int32 × yb_S)} (h : j_X12_record_59 x1 x2 x3 x4 x5 s = some out) : Rn G RX12 cX12_record 6 (Option.some .int) false (yb_rm 3) (yb_qi X out.2 out.1) 0 0 59 [some (.ref (yb_ad G 176)), some (.int x1), some (.int x2), some (.int x3), some (.int x4), some (.int x5)] [] (yb_mk s X) := by
  unfold j_X12_record_59 at h
  refine n_aload_n (i := 0) dX12_record_59 rfl rfl ?_
  refine p_geti fl_X12_290 (sh_176 _ _) rfl dX12_record_60 ?_
  refine n_bipush (60 : Int32) dX12_record_63 bp_60 ?_
  refine n_icmp_ne 70 dX12_record_65 (by decide) (fun c14 => ?_) (fun c14 => ?_)
  · have h := yb_ifn c14 h
    refine n_aload_n (i := 0) dX12_record_70 rfl rfl ?_
    refine p_getr fl_X12_86 (sh_176 _ _) rfl (rR_176_29 _ _) dX12_record_71 ?_
    refine n_aload_n (i := 0) dX12_record_74 rfl rfl ?_
    refine p_geti fl_X12_290 (sh_176 _ _) rfl dX12_record_75 ?_
    refine n_iload_n (i := 1) dX12_record_78 rfl rfl ?_
    obtain ⟨s15, hs15, h⟩ := yb_bind h
    refine p_iast hs15 (sh_207 _ _) dX12_record_79 ?_
    refine n_aload_n (i := 0) dX12_record_80 rfl rfl ?_
    refine p_getr fl_X12_89 (sh_176 _ _) rfl (rR_176_30 _ _) dX12_record_81 ?_
    refine n_aload_n (i := 0) dX12_record_84 rfl rfl ?_
    refine p_geti fl_X12_290 (sh_176 _ _) rfl dX12_record_85 ?_
    refine n_iload_n (i := 2) dX12_record_88 rfl rfl ?_
    obtain ⟨s16, hs16, h⟩ := yb_bind h
    refine p_iast hs16 (sh_208 _ _) dX12_record_89 ?_
    refine n_aload_n (i := 0) dX12_record_90 rfl rfl ?_
    refine p_getr fl_X12_92 (sh_176 _ _) rfl (rR_176_31 _ _) dX12_record_91 ?_
    refine n_aload_n (i := 0) dX12_record_94 rfl rfl ?_
    refine p_geti fl_X12_290 (sh_176 _ _) rfl dX12_record_95 ?_
    refine n_iload_n (i := 3) dX12_record_98 rfl rfl ?_
    obtain ⟨s17, hs17, h⟩ := yb_bind h
    refine p_iast hs17 (sh_209 _ _) dX12_record_99 ?_
    refine n_aload_n (i := 0) dX12_record_100 rfl rfl ?_
    refine p_getr fl_X12_95 (sh_176 _ _) rfl (rR_176_32 _ _) dX12_record_101 ?_
    refine n_aload_n (i := 0) dX12_record_104 rfl rfl ?_
    refine p_geti fl_X12_290 (sh_176 _ _) rfl dX12_record_105 ?_
    refine n_iload dX12_record_108 rfl ?_
    refine n_sipush (1000 : Int32) dX12_record_110 sp_1000 ?_
    refine n_idiv dX12_record_113 (by decide) ?_
    obtain ⟨s18, hs18, h⟩ := yb_bind h
    refine p_iast hs18 (sh_210 _ _) dX12_record_114 ?_
    refine n_aload_n (i := 0) dX12_record_115 rfl rfl ?_
    refine p_getr fl_X12_98 (sh_176 _ _) rfl (rR_176_33 _ _) dX12_record_116 ?_
    refine n_aload_n (i := 0) dX12_record_119 rfl rfl ?_
    refine p_geti fl_X12_290 (sh_176 _ _) rfl dX12_record_120 ?_
    refine n_iload dX12_record_123 rfl ?_
    refine n_sipush (1000 : Int32) dX12_record_125 sp_1000 ?_
    refine p_irem (by decide) dX12_record_128 ?_
    obtain ⟨s19, hs19, h⟩ := yb_bind h
    refine p_iast hs19 (sh_211 _ _) dX12_record_129 ?_
    refine n_aload_n (i := 0) dX12_record_130 rfl rfl ?_
    refine p_getr fl_X12_101 (sh_176 _ _) rfl (rR_176_34 _ _) dX12_record_131 ?_
    refine n_aload_n (i := 0) dX12_record_134 rfl rfl ?_
    refine p_geti fl_X12_290 (sh_176 _ _) rfl dX12_record_135 ?_
    refine n_iload dX12_record_138 rfl ?_
    obtain ⟨s20, hs20, h⟩ := yb_bind h
    refine p_iast hs20 (sh_212 _ _) dX12_record_140 ?_
    refine n_aload_n (i := 0) dX12_record_141 rfl rfl ?_
    refine p_getr fl_X12_104 (sh_176 _ _) rfl (rR_176_35 _ _) dX12_record_142 ?_
    refine n_aload_n (i := 0) dX12_record_145 rfl rfl ?_
    refine p_geti fl_X12_290 (sh_176 _ _) rfl dX12_record_146 ?_
    refine n_aload_n (i := 0) dX12_record_149 rfl rfl ?_
    refine p_geti fl_X12_290 (sh_176 _ _) rfl dX12_record_150 ?_
    obtain ⟨s21, hs21, h⟩ := yb_bind h
    refine p_iast hs21 (sh_213 _ _) dX12_record_153 ?_
    refine n_aload_n (i := 0) dX12_record_154 rfl rfl ?_
    refine n_dup dX12_record_155 rfl ?_
    refine p_geti fl_X12_290 (sh_176 _ _) rfl dX12_record_156 ?_
    refine n_iconst (1 : Int32) dX12_record_159 ic_1 ?_
    refine n_iadd dX12_record_160 ?_
    obtain ⟨s22, hs22, h⟩ := yb_bind h
    refine p_puti hs22 fp_X12_290 (sh_176 _ _) rfl rfl rfl dX12_record_161 ?_
    refine n_aload_n (i := 0) dX12_record_164 rfl rfl ?_
    refine n_iconst (0 : Int32) dX12_record_165 ic_0 ?_
    obtain ⟨s23, hs23, h⟩ := yb_bind h
    refine p_puti hs23 fp_X12_278 (sh_176 _ _) rfl rfl rfl dX12_record_166 ?_
    refine n_aload_n (i := 0) dX12_record_169 rfl rfl ?_
    refine p_geti fl_X12_290 (sh_176 _ _) rfl dX12_record_170 ?_
    refine n_iconst (1 : Int32) dX12_record_173 ic_1 ?_
    refine n_isub dX12_record_174 ?_
    cases h
    exact n_iret dX12_record_175 rfl rfl (Nat.le_refl _) (Nat.le_refl _) ⟨rfl, rfl⟩
  · have h := yb_ifp c14 h
    refine n_iconst (-1 : Int32) dX12_record_68 ic_m1 ?_
    cases h
    exact n_iret dX12_record_69 rfl rfl (Nat.le_refl _) (Nat.le_refl _) ⟨rfl, rfl⟩
set_option maxHeartbeats 4000000 in
set_option maxRecDepth 20000 in
theorem t_X12_record {G : yb_G} {X : List (FieldType × Nat)} {a1 : Int32} {a2 : Int32} {a3 : Int32} {a4 : Int32} {a5 : Int32} {s : yb_S} {out : (Int32 × yb_S)} (h : f_X12_record a1 a2 a3 a4 a5 s = some out) : Ct G yX12_record cX12_record 6 (Option.some .int) (yb_rm 3) [.ref (yb_ad G 176), .int a1, .int a2, .int a3, .int a4, .int a5] (yb_mk s X) (yb_qi X out.2 out.1) := by
  refine Ct.of (own := RX12) (ini := false) (vs := [some (.ref (yb_ad G 176)), some (.int a1), some (.int a2), some (.int a3), some (.int a4), some (.int a5)]) ⟨rfl, by decide +kernel⟩ (fun h => by cases h) (Nat.le_of_ble_eq_true rfl) rfl ?_
  unfold f_X12_record at h
  refine n_iload_n (i := 1) dX12_record_0 rfl rfl ?_
  refine n_i2l dX12_record_1 ?_
  refine n_lconst (0 : Int64) dX12_record_2 rfl ?_
  refine n_ldc2 (2 : Int64) k_X12_293 dX12_record_3 ?_
  obtain ⟨q1, hq1, h⟩ := yb_bind h
  refine p_callSi (As := [.long (a1.toInt64), .long (0 : Int64), .long (2 : Int64)]) (t_X12_in hq1) cs_X12_247 rfl rfl (Nat.le_of_ble_eq_true rfl) dX12_record_6 (yb_rok (Nat.le_of_ble_eq_true rfl) (by decide)) ⟨rfl, rfl⟩ ⟨Nat.le_refl _, Nat.le_refl _⟩ (fun k2 => ?_)
  refine n_if_eq 68 dX12_record_9 (by decide) (fun c3 => ?_) (fun c3 => ?_)
  · have h := yb_ifp c3 h
    refine n_iconst (-1 : Int32) dX12_record_68 ic_m1 ?_
    cases h
    exact n_iret dX12_record_69 rfl rfl (Nat.le_refl _) (Nat.le_refl _) ⟨rfl, rfl⟩
  · have h := yb_ifn c3 h
    refine n_iload_n (i := 2) dX12_record_12 rfl rfl ?_
    refine n_i2l dX12_record_13 ?_
    refine n_lconst (0 : Int64) dX12_record_14 rfl ?_
    refine n_ldc2 (999999 : Int64) k_X12_295 dX12_record_15 ?_
    obtain ⟨q4, hq4, h⟩ := yb_bind h
    refine p_callSi (As := [.long (a2.toInt64), .long (0 : Int64), .long (999999 : Int64)]) (t_X12_in hq4) cs_X12_247 rfl rfl (Nat.le_of_ble_eq_true rfl) dX12_record_18 (yb_rok (Nat.le_of_ble_eq_true rfl) (by decide)) ⟨rfl, rfl⟩ ⟨Nat.le_refl _, Nat.le_refl _⟩ (fun k5 => ?_)
    refine n_if_eq 68 dX12_record_21 (by decide) (fun c6 => ?_) (fun c6 => ?_)
    · have h := yb_ifp c6 h
      refine n_iconst (-1 : Int32) dX12_record_68 ic_m1 ?_
      cases h
      exact n_iret dX12_record_69 rfl rfl (Nat.le_refl _) (Nat.le_refl _) ⟨rfl, rfl⟩
    · have h := yb_ifn c6 h
      refine n_iload_n (i := 3) dX12_record_24 rfl rfl ?_
      refine n_i2l dX12_record_25 ?_
      refine n_lconst (0 : Int64) dX12_record_26 rfl ?_
      refine n_ldc2 (120 : Int64) k_X12_297 dX12_record_27 ?_
      obtain ⟨q7, hq7, h⟩ := yb_bind h
      refine p_callSi (As := [.long (a3.toInt64), .long (0 : Int64), .long (120 : Int64)]) (t_X12_in hq7) cs_X12_247 rfl rfl (Nat.le_of_ble_eq_true rfl) dX12_record_30 (yb_rok (Nat.le_of_ble_eq_true rfl) (by decide)) ⟨rfl, rfl⟩ ⟨Nat.le_refl _, Nat.le_refl _⟩ (fun k8 => ?_)
      refine n_if_eq 68 dX12_record_33 (by decide) (fun c9 => ?_) (fun c9 => ?_)
      · have h := yb_ifp c9 h
        refine n_iconst (-1 : Int32) dX12_record_68 ic_m1 ?_
        cases h
        exact n_iret dX12_record_69 rfl rfl (Nat.le_refl _) (Nat.le_refl _) ⟨rfl, rfl⟩
      · have h := yb_ifn c9 h
        refine n_iload dX12_record_36 rfl ?_
        obtain ⟨q10, hq10, h⟩ := yb_bind h
        refine p_callSi (As := [.int a4]) (t_X12_areDays hq10) cs_X12_267 rfl rfl (Nat.le_of_ble_eq_true rfl) dX12_record_38 (yb_rok (Nat.le_of_ble_eq_true rfl) (by decide)) ⟨rfl, rfl⟩ ⟨Nat.le_refl _, Nat.le_refl _⟩ (fun k11 => ?_)
        refine n_if_eq 68 dX12_record_41 (by decide) (fun c12 => ?_) (fun c12 => ?_)
        · have h := yb_ifp c12 h
          refine n_iconst (-1 : Int32) dX12_record_68 ic_m1 ?_
          cases h
          exact n_iret dX12_record_69 rfl rfl (Nat.le_refl _) (Nat.le_refl _) ⟨rfl, rfl⟩
        · have h := yb_ifn c12 h
          refine n_iload dX12_record_44 rfl ?_
          refine n_iconst (-1 : Int32) dX12_record_46 ic_m1 ?_
          refine n_icmp_eq 59 dX12_record_47 (by decide) (fun c13 => ?_) (fun c13 => ?_)
          · have h := yb_ifp c13 h
            exact p_jump (tj_X12_record_59 h) (And.intro rfl (And.intro rfl (And.intro rfl (And.intro rfl (And.intro rfl (And.intro rfl trivial))))))
          · have h := yb_ifn c13 h
            refine n_aload_n (i := 0) dX12_record_50 rfl rfl ?_
            refine n_iload dX12_record_51 rfl ?_
            obtain ⟨q24, hq24, h⟩ := yb_bind h
            refine p_callVi (As := [.int a5]) (t_X12_isFamily hq24) cv_X12_282 (sh_176 _ _) rfl rfl (Nat.le_of_ble_eq_true rfl) dX12_record_53 (yb_rok (Nat.le_of_ble_eq_true rfl) (by decide)) ⟨rfl, rfl⟩ ⟨Nat.le_refl _, Nat.le_refl _⟩ (fun k25 => ?_)
            refine n_if_eq 68 dX12_record_56 (by decide) (fun c26 => ?_) (fun c26 => ?_)
            · have h := yb_ifp c26 h
              refine n_iconst (-1 : Int32) dX12_record_68 ic_m1 ?_
              cases h
              exact n_iret dX12_record_69 rfl rfl (Nat.le_refl _) (Nat.le_refl _) ⟨rfl, rfl⟩
            · have h := yb_ifn c26 h
              exact p_jump (tj_X12_record_59 h) (And.intro rfl (And.intro rfl (And.intro rfl (And.intro rfl (And.intro rfl (And.intro rfl trivial))))))
set_option maxHeartbeats 4000000 in
set_option maxRecDepth 20000 in
theorem tj_X12_rivals_65 {G : yb_G} {X : List (FieldType × Nat)} {rc18 : (Int32 → Int32 → Option Int32)} {x1 : Int32} {x2 : Int32} {x4 : Int32} {y0 : Int32} {y1 : Int32} {s : yb_S} {out : Int32} (hrc18 : ∀ (x3' : Int32) (x4' : Int32), rc18 x3' x4' = some out → Rn G RX12 cX12_rivals 5 (Option.some .int) false (yb_rm 6) (yb_qi X s out) 0 0 18 [some (.ref (yb_ad G 176)), some (.int x1), some (.int x2), some (.int x3'), some (.int x4')] [] (yb_mk s X)) (h : j_X12_rivals_65 rc18 x1 x2 x4 y0 y1 s = some out) : Rn G RX12 cX12_rivals 5 (Option.some .int) false (yb_rm 6) (yb_qi X s out) 0 0 65 [some (.ref (yb_ad G 176)), some (.int x1), some (.int x2), none, some (.int x4)] [.int y0, .int y1] (yb_mk s X) := by
  unfold j_X12_rivals_65 at h
  refine n_iadd dX12_rivals_65 ?_
  refine n_istore_n (i := 3) (vs' := [some (.ref (yb_ad G 176)), some (.int x1), some (.int x2), some (.int (y1 + y0)), some (.int x4)]) dX12_rivals_66 rfl (Nat.le_of_ble_eq_true rfl) rfl rfl ?_
  refine n_iinc (vs' := [some (.ref (yb_ad G 176)), some (.int x1), some (.int x2), some (.int (y1 + y0)), some (.int (x4 + (1 : Int32)))]) dX12_rivals_67 rfl (ii_1 _) (Nat.le_of_ble_eq_true rfl) rfl rfl ?_
  refine n_goto 18 dX12_rivals_70 (by decide) ?_
  exact p_jump (hrc18 (y1 + y0) (x4 + (1 : Int32)) h) (And.intro rfl (And.intro rfl (And.intro rfl (And.intro rfl (And.intro rfl trivial)))))
set_option maxHeartbeats 4000000 in
set_option maxRecDepth 20000 in
theorem tj_X12_rivals_64 {G : yb_G} {X : List (FieldType × Nat)} {rc18 : (Int32 → Int32 → Option Int32)} {x1 : Int32} {x2 : Int32} {x4 : Int32} {y0 : Int32} {s : yb_S} {out : Int32} (hrc18 : ∀ (x3' : Int32) (x4' : Int32), rc18 x3' x4' = some out → Rn G RX12 cX12_rivals 5 (Option.some .int) false (yb_rm 6) (yb_qi X s out) 0 0 18 [some (.ref (yb_ad G 176)), some (.int x1), some (.int x2), some (.int x3'), some (.int x4')] [] (yb_mk s X)) (h : j_X12_rivals_64 rc18 x1 x2 x4 y0 s = some out) : Rn G RX12 cX12_rivals 5 (Option.some .int) false (yb_rm 6) (yb_qi X s out) 0 0 64 [some (.ref (yb_ad G 176)), some (.int x1), some (.int x2), none, some (.int x4)] [.int y0] (yb_mk s X) := by
  unfold j_X12_rivals_64 at h
  refine n_iconst (0 : Int32) dX12_rivals_64 ic_0 ?_
  exact p_jump (tj_X12_rivals_65 hrc18 h) (And.intro rfl (And.intro rfl (And.intro rfl (And.intro rfl trivial))))
set_option maxHeartbeats 4000000 in
set_option maxRecDepth 20000 in
theorem t_l_X12_rivals_18 {G : yb_G} {X : List (FieldType × Nat)} {x1 : Int32} {x2 : Int32} {s : yb_S} {out : Int32} : ∀ (k0 : Nat) (x3 : Int32) (x4 : Int32), l_X12_rivals_18 x1 x2 s k0 x3 x4 = some out → Rn G RX12 cX12_rivals 5 (Option.some .int) false (yb_rm 6) (yb_qi X s out) 0 0 18 [some (.ref (yb_ad G 176)), some (.int x1), some (.int x2), some (.int x3), some (.int x4)] [] (yb_mk s X) := by
  intro k0
  induction k0 with
  | zero => intro x3 x4 h; cases h
  | succ k0 ih =>
    intro x3 x4 h
    have h : f_X12_rivals_18 (fun x3 x4 => l_X12_rivals_18 x1 x2 s k0 x3 x4) x1 x2 s x3 x4 = some out := h
    have hrc18 := ih
    unfold f_X12_rivals_18 at h
    refine n_iload dX12_rivals_18 rfl ?_
    refine n_aload_n (i := 0) dX12_rivals_20 rfl rfl ?_
    refine p_geti fl_X12_290 (sh_176 _ _) rfl dX12_rivals_21 ?_
    refine n_icmp_ge 73 dX12_rivals_24 (by decide) (fun c4 => ?_) (fun c4 => ?_)
    · have h := yb_ifp c4 h
      refine n_iload_n (i := 3) dX12_rivals_73 rfl rfl ?_
      cases h
      exact n_iret dX12_rivals_74 rfl rfl (Nat.le_refl _) (Nat.le_refl _) ⟨rfl, rfl⟩
    · have h := yb_ifn c4 h
      refine n_iload_n (i := 3) dX12_rivals_27 rfl rfl ?_
      refine n_iload dX12_rivals_28 rfl ?_
      refine n_iload_n (i := 2) dX12_rivals_30 rfl rfl ?_
      refine n_icmp_eq 64 dX12_rivals_31 (by decide) (fun c5 => ?_) (fun c5 => ?_)
      · have h := yb_ifp c5 h
        exact p_jump (tj_X12_rivals_64 hrc18 h) (And.intro rfl (And.intro rfl (And.intro rfl (And.intro rfl trivial))))
      · have h := yb_ifn c5 h
        refine n_aload_n (i := 0) dX12_rivals_34 rfl rfl ?_
        refine n_iload_n (i := 1) dX12_rivals_35 rfl rfl ?_
        refine n_iload dX12_rivals_36 rfl ?_
        obtain ⟨q6, hq6, h⟩ := yb_bind h
        refine p_callVi (As := [.int x1, .int x4]) (t_X12_isMatch hq6) cv_X12_319 (sh_176 _ _) rfl rfl (Nat.le_of_ble_eq_true rfl) dX12_rivals_38 (yb_rok (Nat.le_of_ble_eq_true rfl) (by decide)) ⟨rfl, rfl⟩ ⟨Nat.le_refl _, Nat.le_refl _⟩ (fun k7 => ?_)
        refine n_if_eq 64 dX12_rivals_41 (by decide) (fun c8 => ?_) (fun c8 => ?_)
        · have h := yb_ifp c8 h
          exact p_jump (tj_X12_rivals_64 hrc18 h) (And.intro rfl (And.intro rfl (And.intro rfl (And.intro rfl trivial))))
        · have h := yb_ifn c8 h
          refine n_aload_n (i := 0) dX12_rivals_44 rfl rfl ?_
          refine n_iload_n (i := 1) dX12_rivals_45 rfl rfl ?_
          refine n_iload dX12_rivals_46 rfl ?_
          obtain ⟨q9, hq9, h⟩ := yb_bind h
          refine p_callVi (As := [.int x1, .int x4]) (t_X12_pointsOf hq9) cv_X12_315 (sh_176 _ _) rfl rfl (Nat.le_of_ble_eq_true rfl) dX12_rivals_48 (yb_rok (Nat.le_of_ble_eq_true rfl) (by decide)) ⟨rfl, rfl⟩ ⟨Nat.le_refl _, Nat.le_refl _⟩ (fun k10 => ?_)
          refine n_aload_n (i := 0) dX12_rivals_51 rfl rfl ?_
          refine n_iload_n (i := 1) dX12_rivals_52 rfl rfl ?_
          refine n_iload_n (i := 2) dX12_rivals_53 rfl rfl ?_
          obtain ⟨q11, hq11, h⟩ := yb_bind h
          refine p_callVi (As := [.int x1, .int x2]) (t_X12_pointsOf hq11) cv_X12_315 (sh_176 _ _) rfl rfl (Nat.le_of_ble_eq_true rfl) dX12_rivals_54 (yb_rok (Nat.le_of_ble_eq_true rfl) (by decide)) ⟨rfl, rfl⟩ ⟨Nat.le_refl _, Nat.le_refl _⟩ (fun k12 => ?_)
          refine n_icmp_ne 64 dX12_rivals_57 (by decide) (fun c13 => ?_) (fun c13 => ?_)
          · have h := yb_ifn c13 h
            exact p_jump (tj_X12_rivals_64 hrc18 h) (And.intro rfl (And.intro rfl (And.intro rfl (And.intro rfl trivial))))
          · have h := yb_ifp c13 h
            refine n_iconst (1 : Int32) dX12_rivals_60 ic_1 ?_
            refine n_goto 65 dX12_rivals_61 (by decide) ?_
            exact p_jump (tj_X12_rivals_65 hrc18 h) (And.intro rfl (And.intro rfl (And.intro rfl (And.intro rfl trivial))))
set_option maxHeartbeats 4000000 in
set_option maxRecDepth 20000 in
theorem tl_X12_rivals_18 {G : yb_G} {X : List (FieldType × Nat)} {x1 : Int32} {x2 : Int32} {s : yb_S} {out : Int32} {x3 : Int32} {x4 : Int32} (h : l_X12_rivals_18 x1 x2 s yb_N x3 x4 = some out) : Rn G RX12 cX12_rivals 5 (Option.some .int) false (yb_rm 6) (yb_qi X s out) 0 0 18 [some (.ref (yb_ad G 176)), some (.int x1), some (.int x2), some (.int x3), some (.int x4)] [] (yb_mk s X) := t_l_X12_rivals_18 _ _ _ h
set_option maxHeartbeats 4000000 in
set_option maxRecDepth 20000 in
theorem t_X12_rivals {G : yb_G} {X : List (FieldType × Nat)} {a1 : Int32} {s : yb_S} {out : Int32} (h : f_X12_rivals a1 s = some out) : Ct G yX12_rivals cX12_rivals 5 (Option.some .int) (yb_rm 6) [.ref (yb_ad G 176), .int a1] (yb_mk s X) (yb_qi X s out) := by
  refine Ct.of (own := RX12) (ini := false) (vs := [some (.ref (yb_ad G 176)), some (.int a1), none, none, none]) ⟨rfl, by decide +kernel⟩ (fun h => by cases h) (Nat.le_of_ble_eq_true rfl) rfl ?_
  unfold f_X12_rivals at h
  refine n_aload_n (i := 0) dX12_rivals_0 rfl rfl ?_
  refine n_iload_n (i := 1) dX12_rivals_1 rfl rfl ?_
  obtain ⟨q1, hq1, h⟩ := yb_bind h
  refine p_callVi (As := [.int a1]) (t_X12_match hq1) cv_X12_322 (sh_176 _ _) rfl rfl (Nat.le_of_ble_eq_true rfl) dX12_rivals_2 (yb_rok (Nat.le_of_ble_eq_true rfl) (by decide)) ⟨rfl, rfl⟩ ⟨Nat.le_refl _, Nat.le_refl _⟩ (fun k2 => ?_)
  refine n_istore_n (i := 2) (vs' := [some (.ref (yb_ad G 176)), some (.int a1), some (.int q1), none, none]) dX12_rivals_5 rfl (Nat.le_of_ble_eq_true rfl) rfl rfl ?_
  refine n_iload_n (i := 2) dX12_rivals_6 rfl rfl ?_
  refine n_iconst (-1 : Int32) dX12_rivals_7 ic_m1 ?_
  refine n_icmp_ne 13 dX12_rivals_8 (by decide) (fun c3 => ?_) (fun c3 => ?_)
  · have h := yb_ifn c3 h
    refine n_iconst (0 : Int32) dX12_rivals_13 ic_0 ?_
    refine n_istore_n (i := 3) (vs' := [some (.ref (yb_ad G 176)), some (.int a1), some (.int q1), some (.int (0 : Int32)), none]) dX12_rivals_14 rfl (Nat.le_of_ble_eq_true rfl) rfl rfl ?_
    refine n_iconst (0 : Int32) dX12_rivals_15 ic_0 ?_
    refine n_istore (i := 4) (vs' := [some (.ref (yb_ad G 176)), some (.int a1), some (.int q1), some (.int (0 : Int32)), some (.int (0 : Int32))]) dX12_rivals_16 (Nat.le_of_ble_eq_true rfl) rfl rfl ?_
    exact p_jump (tl_X12_rivals_18 h) (And.intro rfl (And.intro rfl (And.intro rfl (And.intro rfl (And.intro rfl trivial)))))
  · have h := yb_ifp c3 h
    refine n_iconst (-1 : Int32) dX12_rivals_11 ic_m1 ?_
    cases h
    exact n_iret dX12_rivals_12 rfl rfl (Nat.le_refl _) (Nat.le_refl _) ⟨rfl, rfl⟩
set_option maxHeartbeats 4000000 in
set_option maxRecDepth 20000 in
theorem t_X12_same {G : yb_G} {X : List (FieldType × Nat)} {a1 : Int32} {a2 : Int32} {s : yb_S} {out : Int32} (h : f_X12_same a1 a2 s = some out) : Ct G yX12_same cX12_same 3 (Option.some .boolean) (yb_rm 3) [.ref (yb_ad G 176), .int a1, .int a2] (yb_mk s X) (yb_qi X s out) := by
  refine Ct.of (own := RX12) (ini := false) (vs := [some (.ref (yb_ad G 176)), some (.int a1), some (.int a2)]) ⟨rfl, by decide +kernel⟩ (fun h => by cases h) (Nat.le_of_ble_eq_true rfl) rfl ?_
  unfold f_X12_same at h
  refine n_aload_n (i := 0) dX12_same_0 rfl rfl ?_
  refine n_iload_n (i := 1) dX12_same_1 rfl rfl ?_
  obtain ⟨q1, hq1, h⟩ := yb_bind h
  refine p_callVi (As := [.int a1]) (t_X12_isRecord hq1) cv_X12_307 (sh_176 _ _) rfl rfl (Nat.le_of_ble_eq_true rfl) dX12_same_2 (yb_rok (Nat.le_of_ble_eq_true rfl) (by decide)) ⟨rfl, rfl⟩ ⟨Nat.le_refl _, Nat.le_refl _⟩ (fun k2 => ?_)
  refine n_if_eq 35 dX12_same_5 (by decide) (fun c3 => ?_) (fun c3 => ?_)
  · have h := yb_ifp c3 h
    refine n_iconst (0 : Int32) dX12_same_35 ic_0 ?_
    cases h
    exact n_iret dX12_same_36 rfl (by decide) (Nat.le_refl _) (Nat.le_refl _) ⟨rfl, rfl⟩
  · have h := yb_ifn c3 h
    refine n_aload_n (i := 0) dX12_same_8 rfl rfl ?_
    refine n_iload_n (i := 2) dX12_same_9 rfl rfl ?_
    obtain ⟨q4, hq4, h⟩ := yb_bind h
    refine p_callVi (As := [.int a2]) (t_X12_isRecord hq4) cv_X12_307 (sh_176 _ _) rfl rfl (Nat.le_of_ble_eq_true rfl) dX12_same_10 (yb_rok (Nat.le_of_ble_eq_true rfl) (by decide)) ⟨rfl, rfl⟩ ⟨Nat.le_refl _, Nat.le_refl _⟩ (fun k5 => ?_)
    refine n_if_eq 35 dX12_same_13 (by decide) (fun c6 => ?_) (fun c6 => ?_)
    · have h := yb_ifp c6 h
      refine n_iconst (0 : Int32) dX12_same_35 ic_0 ?_
      cases h
      exact n_iret dX12_same_36 rfl (by decide) (Nat.le_refl _) (Nat.le_refl _) ⟨rfl, rfl⟩
    · have h := yb_ifn c6 h
      refine n_aload_n (i := 0) dX12_same_16 rfl rfl ?_
      refine p_getr fl_X12_104 (sh_176 _ _) rfl (rR_176_35 _ _) dX12_same_17 ?_
      refine n_iload_n (i := 1) dX12_same_20 rfl rfl ?_
      obtain ⟨v7, hv7, h⟩ := yb_bind h
      refine p_iald hv7 (sh_213 _ _) dX12_same_21 ?_
      refine n_aload_n (i := 0) dX12_same_22 rfl rfl ?_
      refine p_getr fl_X12_104 (sh_176 _ _) rfl (rR_176_35 _ _) dX12_same_23 ?_
      refine n_iload_n (i := 2) dX12_same_26 rfl rfl ?_
      obtain ⟨v8, hv8, h⟩ := yb_bind h
      refine p_iald hv8 (sh_213 _ _) dX12_same_27 ?_
      refine n_icmp_ne 35 dX12_same_28 (by decide) (fun c9 => ?_) (fun c9 => ?_)
      · have h := yb_ifn c9 h
        refine n_iconst (0 : Int32) dX12_same_35 ic_0 ?_
        cases h
        exact n_iret dX12_same_36 rfl (by decide) (Nat.le_refl _) (Nat.le_refl _) ⟨rfl, rfl⟩
      · have h := yb_ifp c9 h
        refine n_iconst (1 : Int32) dX12_same_31 ic_1 ?_
        refine n_goto 36 dX12_same_32 (by decide) ?_
        cases h
        exact n_iret dX12_same_36 rfl (by decide) (Nat.le_refl _) (Nat.le_refl _) ⟨rfl, rfl⟩
set_option maxHeartbeats 4000000 in
set_option maxRecDepth 20000 in
theorem t_X12_seek {G : yb_G} {X : List (FieldType × Nat)} {a1 : Int32} {a2 : Int32} {a3 : Int32} {s : yb_S} {out : (Int32 × yb_S)} (h : f_X12_seek a1 a2 a3 s = some out) : Ct G yX12_seek cX12_seek 4 (Option.some .boolean) (yb_rm 3) [.ref (yb_ad G 176), .int a1, .int a2, .int a3] (yb_mk s X) (yb_qi X out.2 out.1) := by
  refine Ct.of (own := RX12) (ini := false) (vs := [some (.ref (yb_ad G 176)), some (.int a1), some (.int a2), some (.int a3)]) ⟨rfl, by decide +kernel⟩ (fun h => by cases h) (Nat.le_of_ble_eq_true rfl) rfl ?_
  unfold f_X12_seek at h
  refine n_aload_n (i := 0) dX12_seek_0 rfl rfl ?_
  refine n_iload_n (i := 1) dX12_seek_1 rfl rfl ?_
  obtain ⟨q1, hq1, h⟩ := yb_bind h
  refine p_callVi (As := [.int a1]) (t_X12_isFamily hq1) cv_X12_282 (sh_176 _ _) rfl rfl (Nat.le_of_ble_eq_true rfl) dX12_seek_2 (yb_rok (Nat.le_of_ble_eq_true rfl) (by decide)) ⟨rfl, rfl⟩ ⟨Nat.le_refl _, Nat.le_refl _⟩ (fun k2 => ?_)
  refine n_if_eq 41 dX12_seek_5 (by decide) (fun c3 => ?_) (fun c3 => ?_)
  · have h := yb_ifp c3 h
    refine n_iconst (0 : Int32) dX12_seek_41 ic_0 ?_
    cases h
    exact n_iret dX12_seek_42 rfl (by decide) (Nat.le_refl _) (Nat.le_refl _) ⟨rfl, rfl⟩
  · have h := yb_ifn c3 h
    refine n_iload_n (i := 2) dX12_seek_8 rfl rfl ?_
    refine n_i2l dX12_seek_9 ?_
    refine n_lconst (0 : Int64) dX12_seek_10 rfl ?_
    refine n_ldc2 (999999 : Int64) k_X12_295 dX12_seek_11 ?_
    obtain ⟨q4, hq4, h⟩ := yb_bind h
    refine p_callSi (As := [.long (a2.toInt64), .long (0 : Int64), .long (999999 : Int64)]) (t_X12_in hq4) cs_X12_247 rfl rfl (Nat.le_of_ble_eq_true rfl) dX12_seek_14 (yb_rok (Nat.le_of_ble_eq_true rfl) (by decide)) ⟨rfl, rfl⟩ ⟨Nat.le_refl _, Nat.le_refl _⟩ (fun k5 => ?_)
    refine n_if_eq 41 dX12_seek_17 (by decide) (fun c6 => ?_) (fun c6 => ?_)
    · have h := yb_ifp c6 h
      refine n_iconst (0 : Int32) dX12_seek_41 ic_0 ?_
      cases h
      exact n_iret dX12_seek_42 rfl (by decide) (Nat.le_refl _) (Nat.le_refl _) ⟨rfl, rfl⟩
    · have h := yb_ifn c6 h
      refine n_iload_n (i := 3) dX12_seek_20 rfl rfl ?_
      refine n_i2l dX12_seek_21 ?_
      refine n_lconst (0 : Int64) dX12_seek_22 rfl ?_
      refine n_ldc2 (120 : Int64) k_X12_297 dX12_seek_23 ?_
      obtain ⟨q7, hq7, h⟩ := yb_bind h
      refine p_callSi (As := [.long (a3.toInt64), .long (0 : Int64), .long (120 : Int64)]) (t_X12_in hq7) cs_X12_247 rfl rfl (Nat.le_of_ble_eq_true rfl) dX12_seek_26 (yb_rok (Nat.le_of_ble_eq_true rfl) (by decide)) ⟨rfl, rfl⟩ ⟨Nat.le_refl _, Nat.le_refl _⟩ (fun k8 => ?_)
      refine n_if_eq 41 dX12_seek_29 (by decide) (fun c9 => ?_) (fun c9 => ?_)
      · have h := yb_ifp c9 h
        refine n_iconst (0 : Int32) dX12_seek_41 ic_0 ?_
        cases h
        exact n_iret dX12_seek_42 rfl (by decide) (Nat.le_refl _) (Nat.le_refl _) ⟨rfl, rfl⟩
      · have h := yb_ifn c9 h
        refine n_aload_n (i := 0) dX12_seek_32 rfl rfl ?_
        refine p_geti fl_X12_328 (sh_176 _ _) rfl dX12_seek_33 ?_
        refine n_bipush (40 : Int32) dX12_seek_36 bp_40 ?_
        refine n_icmp_ne 43 dX12_seek_38 (by decide) (fun c10 => ?_) (fun c10 => ?_)
        · have h := yb_ifn c10 h
          refine n_aload_n (i := 0) dX12_seek_43 rfl rfl ?_
          refine p_getr fl_X12_107 (sh_176 _ _) rfl (rR_176_37 _ _) dX12_seek_44 ?_
          refine n_aload_n (i := 0) dX12_seek_47 rfl rfl ?_
          refine p_geti fl_X12_328 (sh_176 _ _) rfl dX12_seek_48 ?_
          refine n_iload_n (i := 1) dX12_seek_51 rfl rfl ?_
          obtain ⟨s11, hs11, h⟩ := yb_bind h
          refine p_iast hs11 (sh_214 _ _) dX12_seek_52 ?_
          refine n_aload_n (i := 0) dX12_seek_53 rfl rfl ?_
          refine p_getr fl_X12_110 (sh_176 _ _) rfl (rR_176_38 _ _) dX12_seek_54 ?_
          refine n_aload_n (i := 0) dX12_seek_57 rfl rfl ?_
          refine p_geti fl_X12_328 (sh_176 _ _) rfl dX12_seek_58 ?_
          refine n_iload_n (i := 2) dX12_seek_61 rfl rfl ?_
          obtain ⟨s12, hs12, h⟩ := yb_bind h
          refine p_iast hs12 (sh_215 _ _) dX12_seek_62 ?_
          refine n_aload_n (i := 0) dX12_seek_63 rfl rfl ?_
          refine p_getr fl_X12_113 (sh_176 _ _) rfl (rR_176_39 _ _) dX12_seek_64 ?_
          refine n_aload_n (i := 0) dX12_seek_67 rfl rfl ?_
          refine p_geti fl_X12_328 (sh_176 _ _) rfl dX12_seek_68 ?_
          refine n_iload_n (i := 3) dX12_seek_71 rfl rfl ?_
          obtain ⟨s13, hs13, h⟩ := yb_bind h
          refine p_iast hs13 (sh_216 _ _) dX12_seek_72 ?_
          refine n_aload_n (i := 0) dX12_seek_73 rfl rfl ?_
          refine n_dup dX12_seek_74 rfl ?_
          refine p_geti fl_X12_328 (sh_176 _ _) rfl dX12_seek_75 ?_
          refine n_iconst (1 : Int32) dX12_seek_78 ic_1 ?_
          refine n_iadd dX12_seek_79 ?_
          obtain ⟨s14, hs14, h⟩ := yb_bind h
          refine p_puti hs14 fp_X12_328 (sh_176 _ _) rfl rfl rfl dX12_seek_80 ?_
          refine n_aload_n (i := 0) dX12_seek_83 rfl rfl ?_
          refine n_iconst (0 : Int32) dX12_seek_84 ic_0 ?_
          obtain ⟨s15, hs15, h⟩ := yb_bind h
          refine p_puti hs15 fp_X12_278 (sh_176 _ _) rfl rfl rfl dX12_seek_85 ?_
          refine n_iconst (1 : Int32) dX12_seek_88 ic_1 ?_
          cases h
          exact n_iret dX12_seek_89 rfl (by decide) (Nat.le_refl _) (Nat.le_refl _) ⟨rfl, rfl⟩
        · have h := yb_ifp c10 h
          refine n_iconst (0 : Int32) dX12_seek_41 ic_0 ?_
          cases h
          exact n_iret dX12_seek_42 rfl (by decide) (Nat.le_refl _) (Nat.le_refl _) ⟨rfl, rfl⟩
set_option maxHeartbeats 4000000 in
set_option maxRecDepth 20000 in
theorem t_l_X12_sheet_60 {G : yb_G} {X : List (FieldType × Nat)} {rc32 : (Int32 → yb_S → Option (Int32 × yb_S))} {x1 : Int32} {out : (Int32 × yb_S)} (hrc32 : ∀ (x1' : Int32) (s' : yb_S), rc32 x1' s' = some out → Rn G RX12 cX12_sheet 3 (Option.some .int) false (yb_rm 252) (yb_qi X out.2 out.1) 0 0 32 [some (.ref (yb_ad G 176)), some (.int x1'), none] [] (yb_mk s' X)) : ∀ (k0 : Nat) (x2 : Int32) (s : yb_S), l_X12_sheet_60 rc32 x1 k0 x2 s = some out → Rn G RX12 cX12_sheet 3 (Option.some .int) false (yb_rm 252) (yb_qi X out.2 out.1) 0 0 60 [some (.ref (yb_ad G 176)), some (.int x1), some (.int x2)] [] (yb_mk s X) := by
  intro k0
  induction k0 with
  | zero => intro x2 s h; cases h
  | succ k0 ih =>
    intro x2 s h
    have h : f_X12_sheet_60 rc32 (fun x2 s => l_X12_sheet_60 rc32 x1 k0 x2 s) x1 x2 s = some out := h
    have hrc60 := ih
    unfold f_X12_sheet_60 at h
    refine n_iload_n (i := 2) dX12_sheet_60 rfl rfl ?_
    refine n_iconst (2 : Int32) dX12_sheet_61 ic_2 ?_
    refine n_aload_n (i := 0) dX12_sheet_62 rfl rfl ?_
    refine p_getr fl_X12_128 (sh_176 _ _) rfl (rR_176_51 _ _) dX12_sheet_63 ?_
    refine n_bipush (10 : Int32) dX12_sheet_66 bp_10 ?_
    obtain ⟨r14, hr14, h⟩ := yb_bind h
    refine p_aald hr14 (sh_321 _ _) (by decide) rfl (rF_321 _ _) dX12_sheet_68 ?_
    refine n_iload_n (i := 1) dX12_sheet_69 rfl rfl ?_
    obtain ⟨v15, hv15, h⟩ := yb_bind h
    refine p_iald hv15 (shF_321 hr14 _ _) dX12_sheet_70 ?_
    refine n_imul dX12_sheet_71 ?_
    refine n_icmp_ge 105 dX12_sheet_72 (by decide) (fun c16 => ?_) (fun c16 => ?_)
    · have h := yb_ifp c16 h
      refine n_iinc (vs' := [some (.ref (yb_ad G 176)), some (.int (x1 + (1 : Int32))), some (.int x2)]) dX12_sheet_105 rfl (ii_1 _) (Nat.le_of_ble_eq_true rfl) rfl rfl ?_
      refine n_goto 32 dX12_sheet_108 (by decide) ?_
      exact p_jump (hrc32 (x1 + (1 : Int32)) s h) (And.intro rfl (And.intro rfl trivial))
    · have h := yb_ifn c16 h
      refine n_aload_n (i := 0) dX12_sheet_75 rfl rfl ?_
      refine p_getr fl_X12_125 (sh_176 _ _) rfl (rR_176_50 _ _) dX12_sheet_76 ?_
      refine n_aload_n (i := 0) dX12_sheet_79 rfl rfl ?_
      refine p_geti fl_X12_440 (sh_176 _ _) rfl dX12_sheet_80 ?_
      obtain ⟨r17, hr17, h⟩ := yb_bind h
      refine p_aald hr17 (sh_243 _ _) (by decide) rfl (rF_243 _ _) dX12_sheet_83 ?_
      refine n_iload_n (i := 1) dX12_sheet_84 rfl rfl ?_
      obtain ⟨r18, hr18, h⟩ := yb_bind h
      refine p_aald hr18 (shF_243 hr17 _ _) (by decide) rfl (rG_243 hr17 _ _) dX12_sheet_85 ?_
      refine n_iload_n (i := 2) dX12_sheet_86 rfl rfl ?_
      refine n_aload_n (i := 0) dX12_sheet_87 rfl rfl ?_
      refine p_getr fl_X12_125 (sh_176 _ _) rfl (rR_176_50 _ _) dX12_sheet_88 ?_
      refine n_bipush (10 : Int32) dX12_sheet_91 bp_10 ?_
      obtain ⟨r19, hr19, h⟩ := yb_bind h
      refine p_aald hr19 (sh_243 _ _) (by decide) rfl (rF_243 _ _) dX12_sheet_93 ?_
      refine n_iload_n (i := 1) dX12_sheet_94 rfl rfl ?_
      obtain ⟨r20, hr20, h⟩ := yb_bind h
      refine p_aald hr20 (shF_243 hr19 _ _) (by decide) rfl (rG_243 hr19 _ _) dX12_sheet_95 ?_
      refine n_iload_n (i := 2) dX12_sheet_96 rfl rfl ?_
      obtain ⟨v21, hv21, h⟩ := yb_bind h
      refine p_iald hv21 (shG_243 hr19 hr20 _ _) dX12_sheet_97 ?_
      obtain ⟨s22, hs22, h⟩ := yb_bind h
      refine p_iast hs22 (shG_243 hr17 hr18 _ _) dX12_sheet_98 ?_
      refine n_iinc (vs' := [some (.ref (yb_ad G 176)), some (.int x1), some (.int (x2 + (1 : Int32)))]) dX12_sheet_99 rfl (ii_1 _) (Nat.le_of_ble_eq_true rfl) rfl rfl ?_
      refine n_goto 60 dX12_sheet_102 (by decide) ?_
      exact p_jump (hrc60 (x2 + (1 : Int32)) s22 h) (And.intro rfl (And.intro rfl (And.intro rfl trivial)))
set_option maxHeartbeats 4000000 in
set_option maxRecDepth 20000 in
theorem tl_X12_sheet_60 {G : yb_G} {X : List (FieldType × Nat)} {rc32 : (Int32 → yb_S → Option (Int32 × yb_S))} {x1 : Int32} {out : (Int32 × yb_S)} (hrc32 : ∀ (x1' : Int32) (s' : yb_S), rc32 x1' s' = some out → Rn G RX12 cX12_sheet 3 (Option.some .int) false (yb_rm 252) (yb_qi X out.2 out.1) 0 0 32 [some (.ref (yb_ad G 176)), some (.int x1'), none] [] (yb_mk s' X)) {x2 : Int32} {s : yb_S} (h : l_X12_sheet_60 rc32 x1 yb_N x2 s = some out) : Rn G RX12 cX12_sheet 3 (Option.some .int) false (yb_rm 252) (yb_qi X out.2 out.1) 0 0 60 [some (.ref (yb_ad G 176)), some (.int x1), some (.int x2)] [] (yb_mk s X) := t_l_X12_sheet_60 hrc32 _ _ _ h
set_option maxHeartbeats 4000000 in
set_option maxRecDepth 20000 in
theorem t_l_X12_sheet_32 {G : yb_G} {X : List (FieldType × Nat)} {out : (Int32 × yb_S)} : ∀ (k0 : Nat) (x1 : Int32) (s : yb_S), l_X12_sheet_32 k0 x1 s = some out → Rn G RX12 cX12_sheet 3 (Option.some .int) false (yb_rm 252) (yb_qi X out.2 out.1) 0 0 32 [some (.ref (yb_ad G 176)), some (.int x1), none] [] (yb_mk s X) := by
  intro k0
  induction k0 with
  | zero => intro x1 s h; cases h
  | succ k0 ih =>
    intro x1 s h
    have h : f_X12_sheet_32 (fun x1 s => l_X12_sheet_32 k0 x1 s) x1 s = some out := h
    have hrc32 := ih
    unfold f_X12_sheet_32 at h
    refine n_iload_n (i := 1) dX12_sheet_32 rfl rfl ?_
    refine n_bipush (6 : Int32) dX12_sheet_33 bp_6 ?_
    refine n_icmp_ge 111 dX12_sheet_35 (by decide) (fun c6 => ?_) (fun c6 => ?_)
    · have h := yb_ifp c6 h
      refine n_aload_n (i := 0) dX12_sheet_111 rfl rfl ?_
      refine p_getr fl_X12_131 (sh_176 _ _) rfl (rR_176_52 _ _) dX12_sheet_112 ?_
      refine n_aload_n (i := 0) dX12_sheet_115 rfl rfl ?_
      refine p_geti fl_X12_440 (sh_176 _ _) rfl dX12_sheet_116 ?_
      refine n_aload_n (i := 0) dX12_sheet_119 rfl rfl ?_
      refine p_geti fl_X12_275 (sh_176 _ _) rfl dX12_sheet_120 ?_
      obtain ⟨s7, hs7, h⟩ := yb_bind h
      refine p_iast hs7 (sh_333 _ _) dX12_sheet_123 ?_
      refine n_aload_n (i := 0) dX12_sheet_124 rfl rfl ?_
      refine p_getr fl_X12_134 (sh_176 _ _) rfl (rR_176_53 _ _) dX12_sheet_125 ?_
      refine n_aload_n (i := 0) dX12_sheet_128 rfl rfl ?_
      refine p_geti fl_X12_440 (sh_176 _ _) rfl dX12_sheet_129 ?_
      refine n_iconst (-1 : Int32) dX12_sheet_132 ic_m1 ?_
      obtain ⟨s8, hs8, h⟩ := yb_bind h
      refine p_iast hs8 (sh_334 _ _) dX12_sheet_133 ?_
      refine n_aload_n (i := 0) dX12_sheet_134 rfl rfl ?_
      refine n_dup dX12_sheet_135 rfl ?_
      refine p_geti fl_X12_440 (sh_176 _ _) rfl dX12_sheet_136 ?_
      refine n_iconst (1 : Int32) dX12_sheet_139 ic_1 ?_
      refine n_iadd dX12_sheet_140 ?_
      obtain ⟨s9, hs9, h⟩ := yb_bind h
      refine p_puti hs9 fp_X12_440 (sh_176 _ _) rfl rfl rfl dX12_sheet_141 ?_
      refine n_aload_n (i := 0) dX12_sheet_144 rfl rfl ?_
      refine p_geti fl_X12_440 (sh_176 _ _) rfl dX12_sheet_145 ?_
      refine n_iconst (1 : Int32) dX12_sheet_148 ic_1 ?_
      refine n_isub dX12_sheet_149 ?_
      cases h
      exact n_iret dX12_sheet_150 rfl rfl (Nat.le_refl _) (Nat.le_refl _) ⟨rfl, rfl⟩
    · have h := yb_ifn c6 h
      refine n_aload_n (i := 0) dX12_sheet_38 rfl rfl ?_
      refine p_getr fl_X12_128 (sh_176 _ _) rfl (rR_176_51 _ _) dX12_sheet_39 ?_
      refine n_aload_n (i := 0) dX12_sheet_42 rfl rfl ?_
      refine p_geti fl_X12_440 (sh_176 _ _) rfl dX12_sheet_43 ?_
      obtain ⟨r10, hr10, h⟩ := yb_bind h
      refine p_aald hr10 (sh_321 _ _) (by decide) rfl (rF_321 _ _) dX12_sheet_46 ?_
      refine n_iload_n (i := 1) dX12_sheet_47 rfl rfl ?_
      refine n_aload_n (i := 0) dX12_sheet_48 rfl rfl ?_
      refine p_getr fl_X12_128 (sh_176 _ _) rfl (rR_176_51 _ _) dX12_sheet_49 ?_
      refine n_bipush (10 : Int32) dX12_sheet_52 bp_10 ?_
      obtain ⟨r11, hr11, h⟩ := yb_bind h
      refine p_aald hr11 (sh_321 _ _) (by decide) rfl (rF_321 _ _) dX12_sheet_54 ?_
      refine n_iload_n (i := 1) dX12_sheet_55 rfl rfl ?_
      obtain ⟨v12, hv12, h⟩ := yb_bind h
      refine p_iald hv12 (shF_321 hr11 _ _) dX12_sheet_56 ?_
      obtain ⟨s13, hs13, h⟩ := yb_bind h
      refine p_iast hs13 (shF_321 hr10 _ _) dX12_sheet_57 ?_
      refine n_iconst (0 : Int32) dX12_sheet_58 ic_0 ?_
      refine n_istore_n (i := 2) (vs' := [some (.ref (yb_ad G 176)), some (.int x1), some (.int (0 : Int32))]) dX12_sheet_59 rfl (Nat.le_of_ble_eq_true rfl) rfl rfl ?_
      exact p_jump (tl_X12_sheet_60 hrc32 h) (And.intro rfl (And.intro rfl (And.intro rfl trivial)))
set_option maxHeartbeats 4000000 in
set_option maxRecDepth 20000 in
theorem tl_X12_sheet_32 {G : yb_G} {X : List (FieldType × Nat)} {out : (Int32 × yb_S)} {x1 : Int32} {s : yb_S} (h : l_X12_sheet_32 yb_N x1 s = some out) : Rn G RX12 cX12_sheet 3 (Option.some .int) false (yb_rm 252) (yb_qi X out.2 out.1) 0 0 32 [some (.ref (yb_ad G 176)), some (.int x1), none] [] (yb_mk s X) := t_l_X12_sheet_32 _ _ _ h
set_option maxHeartbeats 4000000 in
set_option maxRecDepth 20000 in
theorem t_X12_sheet {G : yb_G} {X : List (FieldType × Nat)} {s : yb_S} {out : (Int32 × yb_S)} (h : f_X12_sheet s = some out) : Ct G yX12_sheet cX12_sheet 3 (Option.some .int) (yb_rm 252) [.ref (yb_ad G 176)] (yb_mk s X) (yb_qi X out.2 out.1) := by
  refine Ct.of (own := RX12) (ini := false) (vs := [some (.ref (yb_ad G 176)), none, none]) ⟨rfl, by decide +kernel⟩ (fun h => by cases h) (Nat.le_of_ble_eq_true rfl) rfl ?_
  unfold f_X12_sheet at h
  refine n_aload_n (i := 0) dX12_sheet_0 rfl rfl ?_
  refine p_geti fl_X12_440 (sh_176 _ _) rfl dX12_sheet_1 ?_
  refine n_bipush (10 : Int32) dX12_sheet_4 bp_10 ?_
  refine n_icmp_ne 11 dX12_sheet_6 (by decide) (fun c1 => ?_) (fun c1 => ?_)
  · have h := yb_ifn c1 h
    refine n_aload_n (i := 0) dX12_sheet_11 rfl rfl ?_
    obtain ⟨q2, hq2, h⟩ := yb_bind h
    refine p_callVv (As := []) (t_X12_reads hq2) cv_X12_437 (sh_176 _ _) rfl rfl (Nat.le_of_ble_eq_true rfl) dX12_sheet_12 (yb_rok (Nat.le_of_ble_eq_true rfl) (by decide)) ⟨rfl, rfl⟩ ⟨Nat.le_refl _, Nat.le_refl _⟩ (fun k3 => ?_)
    refine n_aload_n (i := 0) dX12_sheet_15 rfl rfl ?_
    refine p_geti fl_X12_373 (sh_176 _ _) rfl dX12_sheet_16 ?_
    refine n_iconst (-1 : Int32) dX12_sheet_19 ic_m1 ?_
    refine n_icmp_eq 25 dX12_sheet_20 (by decide) (fun c4 => ?_) (fun c4 => ?_)
    · have h := yb_ifp c4 h
      refine n_aload_n (i := 0) dX12_sheet_25 rfl rfl ?_
      refine n_iconst (0 : Int32) dX12_sheet_26 ic_0 ?_
      obtain ⟨s5, hs5, h⟩ := yb_bind h
      refine p_puti hs5 fp_X12_343 (sh_176 _ _) rfl rfl rfl dX12_sheet_27 ?_
      refine n_iconst (0 : Int32) dX12_sheet_30 ic_0 ?_
      refine n_istore_n (i := 1) (vs' := [some (.ref (yb_ad G 176)), some (.int (0 : Int32)), none]) dX12_sheet_31 rfl (Nat.le_of_ble_eq_true rfl) rfl rfl ?_
      exact p_jump (tl_X12_sheet_32 h) (And.intro rfl (And.intro rfl trivial))
    · have h := yb_ifn c4 h
      refine n_iconst (-1 : Int32) dX12_sheet_23 ic_m1 ?_
      cases h
      exact n_iret dX12_sheet_24 rfl rfl (Nat.le_refl _) (Nat.le_refl _) ⟨rfl, rfl⟩
  · have h := yb_ifp c1 h
    refine n_iconst (-1 : Int32) dX12_sheet_9 ic_m1 ?_
    cases h
    exact n_iret dX12_sheet_10 rfl rfl (Nat.le_refl _) (Nat.le_refl _) ⟨rfl, rfl⟩
set_option maxHeartbeats 4000000 in
set_option maxRecDepth 20000 in
theorem tj_X12_show_109 {G : yb_G} {X : List (FieldType × Nat)} {x2 : Int32} {x3 : Int32} {s : yb_S} {out : (Int32 × yb_S)} (h : j_X12_show_109 x2 x3 s = some out) : Rn G RX12 cX12_show 5 (Option.some .int) false (yb_rm 4) (yb_qi X out.2 out.1) 0 0 109 [some (.ref (yb_ad G 176)), none, some (.int x2), some (.int x3), none] [] (yb_mk s X) := by
  unfold j_X12_show_109 at h
  refine n_iload_n (i := 3) dX12_show_109 rfl rfl ?_
  refine n_if_ne 122 dX12_show_110 (by decide) (fun c20 => ?_) (fun c20 => ?_)
  · have h := yb_ifn c20 h
    refine n_iload_n (i := 3) dX12_show_122 rfl rfl ?_
    refine n_iconst (1 : Int32) dX12_show_123 ic_1 ?_
    refine n_icmp_ne 135 dX12_show_124 (by decide) (fun c21 => ?_) (fun c21 => ?_)
    · have h := yb_ifn c21 h
      refine n_iload_n (i := 3) dX12_show_135 rfl rfl ?_
      refine n_iconst (2 : Int32) dX12_show_136 ic_2 ?_
      refine n_icmp_ne 149 dX12_show_137 (by decide) (fun c22 => ?_) (fun c22 => ?_)
      · have h := yb_ifn c22 h
        refine n_aload_n (i := 0) dX12_show_149 rfl rfl ?_
        refine p_getr fl_X12_72 (sh_176 _ _) rfl (rR_176_24 _ _) dX12_show_150 ?_
        refine n_iload_n (i := 2) dX12_show_153 rfl rfl ?_
        obtain ⟨v23, hv23, h⟩ := yb_bind h
        refine p_iald hv23 (sh_197 _ _) dX12_show_154 ?_
        cases h
        exact n_iret dX12_show_155 rfl rfl (Nat.le_refl _) (Nat.le_refl _) ⟨rfl, rfl⟩
      · have h := yb_ifp c22 h
        refine n_aload_n (i := 0) dX12_show_140 rfl rfl ?_
        refine p_getr fl_X12_48 (sh_176 _ _) rfl (rR_176_16 _ _) dX12_show_141 ?_
        refine n_iload_n (i := 2) dX12_show_144 rfl rfl ?_
        obtain ⟨v24, hv24, h⟩ := yb_bind h
        refine p_iald hv24 (sh_189 _ _) dX12_show_145 ?_
        refine n_goto 155 dX12_show_146 (by decide) ?_
        cases h
        exact n_iret dX12_show_155 rfl rfl (Nat.le_refl _) (Nat.le_refl _) ⟨rfl, rfl⟩
    · have h := yb_ifp c21 h
      refine n_aload_n (i := 0) dX12_show_127 rfl rfl ?_
      refine n_iload_n (i := 2) dX12_show_128 rfl rfl ?_
      obtain ⟨q25, hq25, h⟩ := yb_bind h
      refine p_callVi (As := [.int x2]) (t_X12_townFor hq25) cv_X12_458 (sh_176 _ _) rfl rfl (Nat.le_of_ble_eq_true rfl) dX12_show_129 (yb_rok (Nat.le_of_ble_eq_true rfl) (by decide)) ⟨rfl, rfl⟩ ⟨Nat.le_refl _, Nat.le_refl _⟩ (fun k26 => ?_)
      refine n_goto 155 dX12_show_132 (by decide) ?_
      cases h
      exact n_iret dX12_show_155 rfl rfl (Nat.le_refl _) (Nat.le_refl _) ⟨rfl, rfl⟩
  · have h := yb_ifp c20 h
    refine n_aload_n (i := 0) dX12_show_113 rfl rfl ?_
    refine p_getr fl_X12_66 (sh_176 _ _) rfl (rR_176_22 _ _) dX12_show_114 ?_
    refine n_iload_n (i := 2) dX12_show_117 rfl rfl ?_
    obtain ⟨v27, hv27, h⟩ := yb_bind h
    refine p_iald hv27 (sh_195 _ _) dX12_show_118 ?_
    refine n_goto 155 dX12_show_119 (by decide) ?_
    cases h
    exact n_iret dX12_show_155 rfl rfl (Nat.le_refl _) (Nat.le_refl _) ⟨rfl, rfl⟩
set_option maxHeartbeats 4000000 in
set_option maxRecDepth 20000 in
theorem tj_X12_show_91 {G : yb_G} {X : List (FieldType × Nat)} {x2 : Int32} {x3 : Int32} {y0 : Int32} {s : yb_S} {out : (Int32 × yb_S)} (h : j_X12_show_91 x2 x3 y0 s = some out) : Rn G RX12 cX12_show 5 (Option.some .int) false (yb_rm 4) (yb_qi X out.2 out.1) 0 0 91 [some (.ref (yb_ad G 176)), none, some (.int x2), some (.int x3), none] [.int y0] (yb_mk s X) := by
  unfold j_X12_show_91 at h
  refine n_istore (i := 4) (vs' := [some (.ref (yb_ad G 176)), none, some (.int x2), some (.int x3), some (.int y0)]) dX12_show_91 (Nat.le_of_ble_eq_true rfl) rfl rfl ?_
  refine n_aload_n (i := 0) dX12_show_93 rfl rfl ?_
  refine n_iconst (5 : Int32) dX12_show_94 ic_5 ?_
  obtain ⟨q17, hq17, h⟩ := yb_bind h
  refine p_callVi (As := [.int (5 : Int32)]) (t_X12_tells hq17) cv_X12_482 (sh_176 _ _) rfl rfl (Nat.le_of_ble_eq_true rfl) dX12_show_95 (yb_rok (Nat.le_of_ble_eq_true rfl) (by decide)) ⟨rfl, rfl⟩ ⟨Nat.le_refl _, Nat.le_refl _⟩ (fun k18 => ?_)
  refine n_iconst (1 : Int32) dX12_show_98 ic_1 ?_
  refine n_icmp_eq 109 dX12_show_99 (by decide) (fun c19 => ?_) (fun c19 => ?_)
  · have h := yb_ifp c19 h
    exact p_jump (tj_X12_show_109 h) (And.intro rfl (And.intro rfl (And.intro rfl trivial)))
  · have h := yb_ifn c19 h
    refine n_iload dX12_show_102 rfl ?_
    refine n_if_ne 109 dX12_show_104 (by decide) (fun c28 => ?_) (fun c28 => ?_)
    · have h := yb_ifn c28 h
      exact p_jump (tj_X12_show_109 h) (And.intro rfl (And.intro rfl (And.intro rfl trivial)))
    · have h := yb_ifp c28 h
      refine n_iconst (-1 : Int32) dX12_show_107 ic_m1 ?_
      cases h
      exact n_iret dX12_show_108 rfl rfl (Nat.le_refl _) (Nat.le_refl _) ⟨rfl, rfl⟩
set_option maxHeartbeats 4000000 in
set_option maxRecDepth 20000 in
theorem tj_X12_show_90 {G : yb_G} {X : List (FieldType × Nat)} {x2 : Int32} {x3 : Int32} {s : yb_S} {out : (Int32 × yb_S)} (h : j_X12_show_90 x2 x3 s = some out) : Rn G RX12 cX12_show 5 (Option.some .int) false (yb_rm 4) (yb_qi X out.2 out.1) 0 0 90 [some (.ref (yb_ad G 176)), none, some (.int x2), some (.int x3), none] [] (yb_mk s X) := by
  unfold j_X12_show_90 at h
  refine n_iconst (0 : Int32) dX12_show_90 ic_0 ?_
  exact p_jump (tj_X12_show_91 h) (And.intro rfl (And.intro rfl (And.intro rfl trivial)))
set_option maxHeartbeats 4000000 in
set_option maxRecDepth 20000 in
theorem tj_X12_show_62 {G : yb_G} {X : List (FieldType × Nat)} {x1 : Int32} {x2 : Int32} {x3 : Int32} {y0 : Int32} {y1 : Int32} {s : yb_S} {out : (Int32 × yb_S)} (h : j_X12_show_62 x1 x2 x3 y0 y1 s = some out) : Rn G RX12 cX12_show 5 (Option.some .int) false (yb_rm 4) (yb_qi X out.2 out.1) 0 0 62 [some (.ref (yb_ad G 176)), some (.int x1), some (.int x2), some (.int x3), none] [.int y0, .int y1, .ref (yb_ad G 337)] (yb_mk s X) := by
  unfold j_X12_show_62 at h
  obtain ⟨s13, hs13, h⟩ := yb_bind h
  refine p_iast hs13 (sh_337 _ _) dX12_show_62 ?_
  refine n_aload_n (i := 0) dX12_show_63 rfl rfl ?_
  refine n_iload_n (i := 1) dX12_show_64 rfl rfl ?_
  refine n_bipush (100 : Int32) dX12_show_65 bp_100 ?_
  refine n_isub dX12_show_67 ?_
  obtain ⟨q14, hq14, h⟩ := yb_bind h
  refine p_callVi (As := [.int (x1 - (100 : Int32))]) (t_X12_isTown hq14) cv_X12_261 (sh_176 _ _) rfl rfl (Nat.le_of_ble_eq_true rfl) dX12_show_68 (yb_rok (Nat.le_of_ble_eq_true rfl) (by decide)) ⟨rfl, rfl⟩ ⟨Nat.le_refl _, Nat.le_refl _⟩ (fun k15 => ?_)
  refine n_if_eq 90 dX12_show_71 (by decide) (fun c16 => ?_) (fun c16 => ?_)
  · have h := yb_ifp c16 h
    exact p_jump (tj_X12_show_90 h) (And.intro rfl (And.intro rfl (And.intro rfl trivial)))
  · have h := yb_ifn c16 h
    refine n_aload_n (i := 0) dX12_show_74 rfl rfl ?_
    refine n_iload_n (i := 2) dX12_show_75 rfl rfl ?_
    obtain ⟨q29, hq29, h⟩ := yb_bind h
    refine p_callVi (As := [.int x2]) (t_X12_townFor hq29) cv_X12_458 (sh_176 _ _) rfl rfl (Nat.le_of_ble_eq_true rfl) dX12_show_76 (yb_rok (Nat.le_of_ble_eq_true rfl) (by decide)) ⟨rfl, rfl⟩ ⟨Nat.le_refl _, Nat.le_refl _⟩ (fun k30 => ?_)
    refine n_iload_n (i := 1) dX12_show_79 rfl rfl ?_
    refine n_bipush (100 : Int32) dX12_show_80 bp_100 ?_
    refine n_isub dX12_show_82 ?_
    refine n_icmp_ne 90 dX12_show_83 (by decide) (fun c31 => ?_) (fun c31 => ?_)
    · have h := yb_ifn c31 h
      exact p_jump (tj_X12_show_90 h) (And.intro rfl (And.intro rfl (And.intro rfl trivial)))
    · have h := yb_ifp c31 h
      refine n_iconst (1 : Int32) dX12_show_86 ic_1 ?_
      refine n_goto 91 dX12_show_87 (by decide) ?_
      exact p_jump (tj_X12_show_91 h) (And.intro rfl (And.intro rfl (And.intro rfl trivial)))
set_option maxHeartbeats 4000000 in
set_option maxRecDepth 20000 in
theorem tj_X12_show_27 {G : yb_G} {X : List (FieldType × Nat)} {x1 : Int32} {x2 : Int32} {x3 : Int32} {s : yb_S} {out : (Int32 × yb_S)} (h : j_X12_show_27 x1 x2 x3 s = some out) : Rn G RX12 cX12_show 5 (Option.some .int) false (yb_rm 4) (yb_qi X out.2 out.1) 0 0 27 [some (.ref (yb_ad G 176)), some (.int x1), some (.int x2), some (.int x3), none] [] (yb_mk s X) := by
  unfold j_X12_show_27 at h
  refine n_iload_n (i := 3) dX12_show_27 rfl rfl ?_
  refine n_i2l dX12_show_28 ?_
  refine n_lconst (0 : Int64) dX12_show_29 rfl ?_
  refine n_ldc2 (3 : Int64) k_X12_545 dX12_show_30 ?_
  obtain ⟨q7, hq7, h⟩ := yb_bind h
  refine p_callSi (As := [.long (x3.toInt64), .long (0 : Int64), .long (3 : Int64)]) (t_X12_in hq7) cs_X12_247 rfl rfl (Nat.le_of_ble_eq_true rfl) dX12_show_33 (yb_rok (Nat.le_of_ble_eq_true rfl) (by decide)) ⟨rfl, rfl⟩ ⟨Nat.le_refl _, Nat.le_refl _⟩ (fun k8 => ?_)
  refine n_if_ne 41 dX12_show_36 (by decide) (fun c9 => ?_) (fun c9 => ?_)
  · have h := yb_ifn c9 h
    refine n_aload_n (i := 0) dX12_show_41 rfl rfl ?_
    refine n_iload_n (i := 2) dX12_show_42 rfl rfl ?_
    obtain ⟨q10, hq10, h⟩ := yb_bind h
    refine p_callVv (As := [.int x2]) (t_X12_asksOf hq10) cv_X12_467 (sh_176 _ _) rfl rfl (Nat.le_of_ble_eq_true rfl) dX12_show_43 (yb_rok (Nat.le_of_ble_eq_true rfl) (by decide)) ⟨rfl, rfl⟩ ⟨Nat.le_refl _, Nat.le_refl _⟩ (fun k11 => ?_)
    refine n_aload_n (i := 0) dX12_show_46 rfl rfl ?_
    refine p_getr fl_X12_188 (sh_176 _ _) rfl (rR_176_59 _ _) dX12_show_47 ?_
    refine n_bipush (17 : Int32) dX12_show_50 bp_17 ?_
    refine n_iload_n (i := 1) dX12_show_52 rfl rfl ?_
    refine n_iload_n (i := 2) dX12_show_53 rfl rfl ?_
    refine n_icmp_ne 61 dX12_show_54 (by decide) (fun c12 => ?_) (fun c12 => ?_)
    · have h := yb_ifn c12 h
      refine n_iconst (0 : Int32) dX12_show_61 ic_0 ?_
      exact p_jump (tj_X12_show_62 h) (And.intro rfl (And.intro rfl (And.intro rfl (And.intro rfl trivial))))
    · have h := yb_ifp c12 h
      refine n_iconst (1 : Int32) dX12_show_57 ic_1 ?_
      refine n_goto 62 dX12_show_58 (by decide) ?_
      exact p_jump (tj_X12_show_62 h) (And.intro rfl (And.intro rfl (And.intro rfl (And.intro rfl trivial))))
  · have h := yb_ifp c9 h
    refine n_iconst (-1 : Int32) dX12_show_39 ic_m1 ?_
    cases h
    exact n_iret dX12_show_40 rfl rfl (Nat.le_refl _) (Nat.le_refl _) ⟨rfl, rfl⟩
set_option maxHeartbeats 4000000 in
set_option maxRecDepth 20000 in
theorem t_X12_show {G : yb_G} {X : List (FieldType × Nat)} {a1 : Int32} {a2 : Int32} {a3 : Int32} {s : yb_S} {out : (Int32 × yb_S)} (h : f_X12_show a1 a2 a3 s = some out) : Ct G yX12_show cX12_show 5 (Option.some .int) (yb_rm 4) [.ref (yb_ad G 176), .int a1, .int a2, .int a3] (yb_mk s X) (yb_qi X out.2 out.1) := by
  refine Ct.of (own := RX12) (ini := false) (vs := [some (.ref (yb_ad G 176)), some (.int a1), some (.int a2), some (.int a3), none]) ⟨rfl, by decide +kernel⟩ (fun h => by cases h) (Nat.le_of_ble_eq_true rfl) rfl ?_
  unfold f_X12_show at h
  refine n_aload_n (i := 0) dX12_show_0 rfl rfl ?_
  refine n_iload_n (i := 2) dX12_show_1 rfl rfl ?_
  obtain ⟨q1, hq1, h⟩ := yb_bind h
  refine p_callVi (As := [.int a2]) (t_X12_isFamily hq1) cv_X12_282 (sh_176 _ _) rfl rfl (Nat.le_of_ble_eq_true rfl) dX12_show_2 (yb_rok (Nat.le_of_ble_eq_true rfl) (by decide)) ⟨rfl, rfl⟩ ⟨Nat.le_refl _, Nat.le_refl _⟩ (fun k2 => ?_)
  refine n_if_eq 39 dX12_show_5 (by decide) (fun c3 => ?_) (fun c3 => ?_)
  · have h := yb_ifp c3 h
    refine n_iconst (-1 : Int32) dX12_show_39 ic_m1 ?_
    cases h
    exact n_iret dX12_show_40 rfl rfl (Nat.le_refl _) (Nat.le_refl _) ⟨rfl, rfl⟩
  · have h := yb_ifn c3 h
    refine n_aload_n (i := 0) dX12_show_8 rfl rfl ?_
    refine n_iload_n (i := 1) dX12_show_9 rfl rfl ?_
    obtain ⟨q4, hq4, h⟩ := yb_bind h
    refine p_callVi (As := [.int a1]) (t_X12_isFamily hq4) cv_X12_282 (sh_176 _ _) rfl rfl (Nat.le_of_ble_eq_true rfl) dX12_show_10 (yb_rok (Nat.le_of_ble_eq_true rfl) (by decide)) ⟨rfl, rfl⟩ ⟨Nat.le_refl _, Nat.le_refl _⟩ (fun k5 => ?_)
    refine n_if_ne 27 dX12_show_13 (by decide) (fun c6 => ?_) (fun c6 => ?_)
    · have h := yb_ifn c6 h
      exact p_jump (tj_X12_show_27 h) (And.intro rfl (And.intro rfl (And.intro rfl (And.intro rfl trivial))))
    · have h := yb_ifp c6 h
      refine n_aload_n (i := 0) dX12_show_16 rfl rfl ?_
      refine n_iload_n (i := 1) dX12_show_17 rfl rfl ?_
      refine n_bipush (100 : Int32) dX12_show_18 bp_100 ?_
      refine n_isub dX12_show_20 ?_
      obtain ⟨q32, hq32, h⟩ := yb_bind h
      refine p_callVi (As := [.int (a1 - (100 : Int32))]) (t_X12_isTown hq32) cv_X12_261 (sh_176 _ _) rfl rfl (Nat.le_of_ble_eq_true rfl) dX12_show_21 (yb_rok (Nat.le_of_ble_eq_true rfl) (by decide)) ⟨rfl, rfl⟩ ⟨Nat.le_refl _, Nat.le_refl _⟩ (fun k33 => ?_)
      refine n_if_eq 39 dX12_show_24 (by decide) (fun c34 => ?_) (fun c34 => ?_)
      · have h := yb_ifp c34 h
        refine n_iconst (-1 : Int32) dX12_show_39 ic_m1 ?_
        cases h
        exact n_iret dX12_show_40 rfl rfl (Nat.le_refl _) (Nat.le_refl _) ⟨rfl, rfl⟩
      · have h := yb_ifn c34 h
        exact p_jump (tj_X12_show_27 h) (And.intro rfl (And.intro rfl (And.intro rfl (And.intro rfl trivial))))
set_option maxHeartbeats 4000000 in
set_option maxRecDepth 20000 in
theorem t_X12_strike {G : yb_G} {X : List (FieldType × Nat)} {a1 : Int32} {s : yb_S} {out : (Int32 × yb_S)} (h : f_X12_strike a1 s = some out) : Ct G yX12_strike cX12_strike 2 (Option.some .boolean) (yb_rm 2) [.ref (yb_ad G 176), .int a1] (yb_mk s X) (yb_qi X out.2 out.1) := by
  refine Ct.of (own := RX12) (ini := false) (vs := [some (.ref (yb_ad G 176)), some (.int a1)]) ⟨rfl, by decide +kernel⟩ (fun h => by cases h) (Nat.le_of_ble_eq_true rfl) rfl ?_
  unfold f_X12_strike at h
  refine n_iload_n (i := 1) dX12_strike_0 rfl rfl ?_
  refine n_i2l dX12_strike_1 ?_
  refine n_lconst (0 : Int64) dX12_strike_2 rfl ?_
  refine n_aload_n (i := 0) dX12_strike_3 rfl rfl ?_
  refine p_geti fl_X12_440 (sh_176 _ _) rfl dX12_strike_4 ?_
  refine n_iconst (1 : Int32) dX12_strike_7 ic_1 ?_
  refine n_isub dX12_strike_8 ?_
  refine n_i2l dX12_strike_9 ?_
  obtain ⟨q1, hq1, h⟩ := yb_bind h
  refine p_callSi (As := [.long (a1.toInt64), .long (0 : Int64), .long (((s.1 176 54) - (1 : Int32)).toInt64)]) (t_X12_in hq1) cs_X12_247 rfl rfl (Nat.le_of_ble_eq_true rfl) dX12_strike_10 (yb_rok (Nat.le_of_ble_eq_true rfl) (by decide)) ⟨rfl, rfl⟩ ⟨Nat.le_refl _, Nat.le_refl _⟩ (fun k2 => ?_)
  refine n_if_eq 26 dX12_strike_13 (by decide) (fun c3 => ?_) (fun c3 => ?_)
  · have h := yb_ifp c3 h
    refine n_iconst (0 : Int32) dX12_strike_26 ic_0 ?_
    cases h
    exact n_iret dX12_strike_27 rfl (by decide) (Nat.le_refl _) (Nat.le_refl _) ⟨rfl, rfl⟩
  · have h := yb_ifn c3 h
    refine n_aload_n (i := 0) dX12_strike_16 rfl rfl ?_
    refine p_getr fl_X12_134 (sh_176 _ _) rfl (rR_176_53 _ _) dX12_strike_17 ?_
    refine n_iload_n (i := 1) dX12_strike_20 rfl rfl ?_
    obtain ⟨v4, hv4, h⟩ := yb_bind h
    refine p_iald hv4 (sh_334 _ _) dX12_strike_21 ?_
    refine n_iconst (-1 : Int32) dX12_strike_22 ic_m1 ?_
    refine n_icmp_eq 28 dX12_strike_23 (by decide) (fun c5 => ?_) (fun c5 => ?_)
    · have h := yb_ifp c5 h
      refine n_aload_n (i := 0) dX12_strike_28 rfl rfl ?_
      refine p_getr fl_X12_134 (sh_176 _ _) rfl (rR_176_53 _ _) dX12_strike_29 ?_
      refine n_iload_n (i := 1) dX12_strike_32 rfl rfl ?_
      refine n_aload_n (i := 0) dX12_strike_33 rfl rfl ?_
      refine p_geti fl_X12_275 (sh_176 _ _) rfl dX12_strike_34 ?_
      obtain ⟨s6, hs6, h⟩ := yb_bind h
      refine p_iast hs6 (sh_334 _ _) dX12_strike_37 ?_
      refine n_iconst (1 : Int32) dX12_strike_38 ic_1 ?_
      cases h
      exact n_iret dX12_strike_39 rfl (by decide) (Nat.le_refl _) (Nat.le_refl _) ⟨rfl, rfl⟩
    · have h := yb_ifn c5 h
      refine n_iconst (0 : Int32) dX12_strike_26 ic_0 ?_
      cases h
      exact n_iret dX12_strike_27 rfl (by decide) (Nat.le_refl _) (Nat.le_refl _) ⟨rfl, rfl⟩
set_option maxHeartbeats 4000000 in
set_option maxRecDepth 20000 in
theorem t_X12_told {G : yb_G} {X : List (FieldType × Nat)} {a1 : Int32} {a2 : Int32} {s : yb_S} {out : Int32} (h : f_X12_told a1 a2 s = some out) : Ct G yX12_told cX12_told 3 (Option.some .int) (yb_rm 3) [.ref (yb_ad G 176), .int a1, .int a2] (yb_mk s X) (yb_qi X s out) := by
  refine Ct.of (own := RX12) (ini := false) (vs := [some (.ref (yb_ad G 176)), some (.int a1), some (.int a2)]) ⟨rfl, by decide +kernel⟩ (fun h => by cases h) (Nat.le_of_ble_eq_true rfl) rfl ?_
  unfold f_X12_told at h
  refine n_aload_n (i := 0) dX12_told_0 rfl rfl ?_
  refine n_iload_n (i := 1) dX12_told_1 rfl rfl ?_
  obtain ⟨q1, hq1, h⟩ := yb_bind h
  refine p_callVi (As := [.int a1]) (t_X12_isFamily hq1) cv_X12_282 (sh_176 _ _) rfl rfl (Nat.le_of_ble_eq_true rfl) dX12_told_2 (yb_rok (Nat.le_of_ble_eq_true rfl) (by decide)) ⟨rfl, rfl⟩ ⟨Nat.le_refl _, Nat.le_refl _⟩ (fun k2 => ?_)
  refine n_if_ne 10 dX12_told_5 (by decide) (fun c3 => ?_) (fun c3 => ?_)
  · have h := yb_ifn c3 h
    refine n_iload_n (i := 2) dX12_told_10 rfl rfl ?_
    by_cases c4 : a2 = (0 : Int32)
    · have h := yb_ifp c4 h
      refine n_tableIn (off := 37) 48 dX12_told_11 (by rw [c4]; decide) (by rw [c4]; decide) (by rw [c4]; decide) (by decide) ?_
      refine n_aload_n (i := 0) dX12_told_48 rfl rfl ?_
      refine p_getr fl_X12_66 (sh_176 _ _) rfl (rR_176_22 _ _) dX12_told_49 ?_
      refine n_iload_n (i := 1) dX12_told_52 rfl rfl ?_
      obtain ⟨v10, hv10, h⟩ := yb_bind h
      refine p_iald hv10 (sh_195 _ _) dX12_told_53 ?_
      cases h
      exact n_iret dX12_told_54 rfl rfl (Nat.le_refl _) (Nat.le_refl _) ⟨rfl, rfl⟩
    · have h := yb_ifn c4 h
      by_cases c5 : a2 = (1 : Int32)
      · have h := yb_ifp c5 h
        refine n_tableIn (off := 44) 55 dX12_told_11 (by rw [c5]; decide) (by rw [c5]; decide) (by rw [c5]; decide) (by decide) ?_
        refine n_aload_n (i := 0) dX12_told_55 rfl rfl ?_
        refine p_getr fl_X12_69 (sh_176 _ _) rfl (rR_176_23 _ _) dX12_told_56 ?_
        refine n_iload_n (i := 1) dX12_told_59 rfl rfl ?_
        obtain ⟨v11, hv11, h⟩ := yb_bind h
        refine p_iald hv11 (sh_196 _ _) dX12_told_60 ?_
        cases h
        exact n_iret dX12_told_61 rfl rfl (Nat.le_refl _) (Nat.le_refl _) ⟨rfl, rfl⟩
      · have h := yb_ifn c5 h
        by_cases c6 : a2 = (2 : Int32)
        · have h := yb_ifp c6 h
          refine n_tableIn (off := 51) 62 dX12_told_11 (by rw [c6]; decide) (by rw [c6]; decide) (by rw [c6]; decide) (by decide) ?_
          refine n_aload_n (i := 0) dX12_told_62 rfl rfl ?_
          refine p_getr fl_X12_72 (sh_176 _ _) rfl (rR_176_24 _ _) dX12_told_63 ?_
          refine n_iload_n (i := 1) dX12_told_66 rfl rfl ?_
          obtain ⟨v12, hv12, h⟩ := yb_bind h
          refine p_iald hv12 (sh_197 _ _) dX12_told_67 ?_
          cases h
          exact n_iret dX12_told_68 rfl rfl (Nat.le_refl _) (Nat.le_refl _) ⟨rfl, rfl⟩
        · have h := yb_ifn c6 h
          by_cases c7 : a2 = (3 : Int32)
          · have h := yb_ifp c7 h
            refine n_tableIn (off := 58) 69 dX12_told_11 (by rw [c7]; decide) (by rw [c7]; decide) (by rw [c7]; decide) (by decide) ?_
            refine n_aload_n (i := 0) dX12_told_69 rfl rfl ?_
            refine p_getr fl_X12_48 (sh_176 _ _) rfl (rR_176_16 _ _) dX12_told_70 ?_
            refine n_iload_n (i := 1) dX12_told_73 rfl rfl ?_
            obtain ⟨v13, hv13, h⟩ := yb_bind h
            refine p_iald hv13 (sh_189 _ _) dX12_told_74 ?_
            cases h
            exact n_iret dX12_told_75 rfl rfl (Nat.le_refl _) (Nat.le_refl _) ⟨rfl, rfl⟩
          · have h := yb_ifn c7 h
            by_cases c8 : a2 = (4 : Int32)
            · have h := yb_ifp c8 h
              refine n_tableIn (off := 65) 76 dX12_told_11 (by rw [c8]; decide) (by rw [c8]; decide) (by rw [c8]; decide) (by decide) ?_
              refine n_aload_n (i := 0) dX12_told_76 rfl rfl ?_
              refine p_getr fl_X12_75 (sh_176 _ _) rfl (rR_176_25 _ _) dX12_told_77 ?_
              refine n_iload_n (i := 1) dX12_told_80 rfl rfl ?_
              obtain ⟨v14, hv14, h⟩ := yb_bind h
              refine p_iald hv14 (sh_198 _ _) dX12_told_81 ?_
              cases h
              exact n_iret dX12_told_82 rfl rfl (Nat.le_refl _) (Nat.le_refl _) ⟨rfl, rfl⟩
            · have h := yb_ifn c8 h
              by_cases c9 : a2 = (5 : Int32)
              · have h := yb_ifp c9 h
                refine n_tableIn (off := 72) 83 dX12_told_11 (by rw [c9]; decide) (by rw [c9]; decide) (by rw [c9]; decide) (by decide) ?_
                refine n_aload_n (i := 0) dX12_told_83 rfl rfl ?_
                refine p_getr fl_X12_78 (sh_176 _ _) rfl (rR_176_26 _ _) dX12_told_84 ?_
                refine n_iload_n (i := 1) dX12_told_87 rfl rfl ?_
                obtain ⟨v15, hv15, h⟩ := yb_bind h
                refine p_iald hv15 (sh_199 _ _) dX12_told_88 ?_
                cases h
                exact n_iret dX12_told_89 rfl rfl (Nat.le_refl _) (Nat.le_refl _) ⟨rfl, rfl⟩
              · have h := yb_ifn c9 h
                refine n_tableOut 90 dX12_told_11 (by have z0 := lv_neT c4 (a := 0) (by decide); have z1 := lv_neT c5 (a := 1) (by decide); have z2 := lv_neT c6 (a := 2) (by decide); have z3 := lv_neT c7 (a := 3) (by decide); have z4 := lv_neT c8 (a := 4) (by decide); have z5 := lv_neT c9 (a := 5) (by decide); omega) (by decide) ?_
                refine n_iconst (-1 : Int32) dX12_told_90 ic_m1 ?_
                cases h
                exact n_iret dX12_told_91 rfl rfl (Nat.le_refl _) (Nat.le_refl _) ⟨rfl, rfl⟩
  · have h := yb_ifp c3 h
    refine n_iconst (-1 : Int32) dX12_told_8 ic_m1 ?_
    cases h
    exact n_iret dX12_told_9 rfl rfl (Nat.le_refl _) (Nat.le_refl _) ⟨rfl, rfl⟩
set_option maxHeartbeats 4000000 in
set_option maxRecDepth 20000 in
theorem t_X12_town {G : yb_G} {X : List (FieldType × Nat)} {a1 : Int32} {a2 : Int32} {a3 : Int32} {s : yb_S} {out : (Int32 × yb_S)} (h : f_X12_town a1 a2 a3 s = some out) : Ct G yX12_town cX12_town 4 (Option.some .int) (yb_rm 2) [.ref (yb_ad G 176), .int a1, .int a2, .int a3] (yb_mk s X) (yb_qi X out.2 out.1) := by
  refine Ct.of (own := RX12) (ini := false) (vs := [some (.ref (yb_ad G 176)), some (.int a1), some (.int a2), some (.int a3)]) ⟨rfl, by decide +kernel⟩ (fun h => by cases h) (Nat.le_of_ble_eq_true rfl) rfl ?_
  unfold f_X12_town at h
  refine n_iload_n (i := 1) dX12_town_0 rfl rfl ?_
  refine n_i2l dX12_town_1 ?_
  refine n_lconst (0 : Int64) dX12_town_2 rfl ?_
  refine n_ldc2 (999 : Int64) k_X12_257 dX12_town_3 ?_
  obtain ⟨q1, hq1, h⟩ := yb_bind h
  refine p_callSi (As := [.long (a1.toInt64), .long (0 : Int64), .long (999 : Int64)]) (t_X12_in hq1) cs_X12_247 rfl rfl (Nat.le_of_ble_eq_true rfl) dX12_town_6 (yb_rok (Nat.le_of_ble_eq_true rfl) (by decide)) ⟨rfl, rfl⟩ ⟨Nat.le_refl _, Nat.le_refl _⟩ (fun k2 => ?_)
  refine n_if_eq 55 dX12_town_9 (by decide) (fun c3 => ?_) (fun c3 => ?_)
  · have h := yb_ifp c3 h
    refine n_iconst (-1 : Int32) dX12_town_55 ic_m1 ?_
    cases h
    exact n_iret dX12_town_56 rfl rfl (Nat.le_refl _) (Nat.le_refl _) ⟨rfl, rfl⟩
  · have h := yb_ifn c3 h
    refine n_iload_n (i := 2) dX12_town_12 rfl rfl ?_
    refine n_if_lt 55 dX12_town_13 (by decide) (fun c4 => ?_) (fun c4 => ?_)
    · have h := yb_ifp c4 h
      refine n_iconst (-1 : Int32) dX12_town_55 ic_m1 ?_
      cases h
      exact n_iret dX12_town_56 rfl rfl (Nat.le_refl _) (Nat.le_refl _) ⟨rfl, rfl⟩
    · have h := yb_ifn c4 h
      refine n_iload_n (i := 2) dX12_town_16 rfl rfl ?_
      refine n_bipush (100 : Int32) dX12_town_17 bp_100 ?_
      refine n_idiv dX12_town_19 (by decide) ?_
      refine n_bipush (15 : Int32) dX12_town_20 bp_15 ?_
      refine n_icmp_gt 55 dX12_town_22 (by decide) (fun c5 => ?_) (fun c5 => ?_)
      · have h := yb_ifp c5 h
        refine n_iconst (-1 : Int32) dX12_town_55 ic_m1 ?_
        cases h
        exact n_iret dX12_town_56 rfl rfl (Nat.le_refl _) (Nat.le_refl _) ⟨rfl, rfl⟩
      · have h := yb_ifn c5 h
        refine n_iload_n (i := 2) dX12_town_25 rfl rfl ?_
        refine n_bipush (100 : Int32) dX12_town_26 bp_100 ?_
        refine p_irem (by decide) dX12_town_28 ?_
        refine n_bipush (40 : Int32) dX12_town_29 bp_40 ?_
        refine n_icmp_gt 55 dX12_town_31 (by decide) (fun c6 => ?_) (fun c6 => ?_)
        · have h := yb_ifp c6 h
          refine n_iconst (-1 : Int32) dX12_town_55 ic_m1 ?_
          cases h
          exact n_iret dX12_town_56 rfl rfl (Nat.le_refl _) (Nat.le_refl _) ⟨rfl, rfl⟩
        · have h := yb_ifn c6 h
          refine n_iload_n (i := 3) dX12_town_34 rfl rfl ?_
          refine n_i2l dX12_town_35 ?_
          refine n_lconst (0 : Int64) dX12_town_36 rfl ?_
          refine n_ldc2 (63 : Int64) k_X12_259 dX12_town_37 ?_
          obtain ⟨q7, hq7, h⟩ := yb_bind h
          refine p_callSi (As := [.long (a3.toInt64), .long (0 : Int64), .long (63 : Int64)]) (t_X12_in hq7) cs_X12_247 rfl rfl (Nat.le_of_ble_eq_true rfl) dX12_town_40 (yb_rok (Nat.le_of_ble_eq_true rfl) (by decide)) ⟨rfl, rfl⟩ ⟨Nat.le_refl _, Nat.le_refl _⟩ (fun k8 => ?_)
          refine n_if_eq 55 dX12_town_43 (by decide) (fun c9 => ?_) (fun c9 => ?_)
          · have h := yb_ifp c9 h
            refine n_iconst (-1 : Int32) dX12_town_55 ic_m1 ?_
            cases h
            exact n_iret dX12_town_56 rfl rfl (Nat.le_refl _) (Nat.le_refl _) ⟨rfl, rfl⟩
          · have h := yb_ifn c9 h
            refine n_aload_n (i := 0) dX12_town_46 rfl rfl ?_
            refine p_geti fl_X12_244 (sh_176 _ _) rfl dX12_town_47 ?_
            refine n_bipush (8 : Int32) dX12_town_50 bp_8 ?_
            refine n_icmp_ne 57 dX12_town_52 (by decide) (fun c10 => ?_) (fun c10 => ?_)
            · have h := yb_ifn c10 h
              refine n_aload_n (i := 0) dX12_town_57 rfl rfl ?_
              refine p_getr fl_X12_9 (sh_176 _ _) rfl (rR_176_0 _ _) dX12_town_58 ?_
              refine n_aload_n (i := 0) dX12_town_61 rfl rfl ?_
              refine p_geti fl_X12_244 (sh_176 _ _) rfl dX12_town_62 ?_
              refine n_iload_n (i := 1) dX12_town_65 rfl rfl ?_
              obtain ⟨s11, hs11, h⟩ := yb_bind h
              refine p_iast hs11 (sh_177 _ _) dX12_town_66 ?_
              refine n_aload_n (i := 0) dX12_town_67 rfl rfl ?_
              refine p_getr fl_X12_13 (sh_176 _ _) rfl (rR_176_1 _ _) dX12_town_68 ?_
              refine n_aload_n (i := 0) dX12_town_71 rfl rfl ?_
              refine p_geti fl_X12_244 (sh_176 _ _) rfl dX12_town_72 ?_
              refine n_iload_n (i := 2) dX12_town_75 rfl rfl ?_
              refine n_bipush (100 : Int32) dX12_town_76 bp_100 ?_
              refine n_idiv dX12_town_78 (by decide) ?_
              obtain ⟨s12, hs12, h⟩ := yb_bind h
              refine p_iast hs12 (sh_178 _ _) dX12_town_79 ?_
              refine n_aload_n (i := 0) dX12_town_80 rfl rfl ?_
              refine p_getr fl_X12_16 (sh_176 _ _) rfl (rR_176_2 _ _) dX12_town_81 ?_
              refine n_aload_n (i := 0) dX12_town_84 rfl rfl ?_
              refine p_geti fl_X12_244 (sh_176 _ _) rfl dX12_town_85 ?_
              refine n_iload_n (i := 2) dX12_town_88 rfl rfl ?_
              refine n_bipush (100 : Int32) dX12_town_89 bp_100 ?_
              refine p_irem (by decide) dX12_town_91 ?_
              obtain ⟨s13, hs13, h⟩ := yb_bind h
              refine p_iast hs13 (sh_179 _ _) dX12_town_92 ?_
              refine n_aload_n (i := 0) dX12_town_93 rfl rfl ?_
              refine p_getr fl_X12_19 (sh_176 _ _) rfl (rR_176_3 _ _) dX12_town_94 ?_
              refine n_aload_n (i := 0) dX12_town_97 rfl rfl ?_
              refine p_geti fl_X12_244 (sh_176 _ _) rfl dX12_town_98 ?_
              refine n_iload_n (i := 3) dX12_town_101 rfl rfl ?_
              obtain ⟨s14, hs14, h⟩ := yb_bind h
              refine p_iast hs14 (sh_180 _ _) dX12_town_102 ?_
              refine n_aload_n (i := 0) dX12_town_103 rfl rfl ?_
              refine n_dup dX12_town_104 rfl ?_
              refine p_geti fl_X12_244 (sh_176 _ _) rfl dX12_town_105 ?_
              refine n_iconst (1 : Int32) dX12_town_108 ic_1 ?_
              refine n_iadd dX12_town_109 ?_
              obtain ⟨s15, hs15, h⟩ := yb_bind h
              refine p_puti hs15 fp_X12_244 (sh_176 _ _) rfl rfl rfl dX12_town_110 ?_
              refine n_aload_n (i := 0) dX12_town_113 rfl rfl ?_
              refine p_geti fl_X12_244 (sh_176 _ _) rfl dX12_town_114 ?_
              refine n_iconst (1 : Int32) dX12_town_117 ic_1 ?_
              refine n_isub dX12_town_118 ?_
              cases h
              exact n_iret dX12_town_119 rfl rfl (Nat.le_refl _) (Nat.le_refl _) ⟨rfl, rfl⟩
            · have h := yb_ifp c10 h
              refine n_iconst (-1 : Int32) dX12_town_55 ic_m1 ?_
              cases h
              exact n_iret dX12_town_56 rfl rfl (Nat.le_refl _) (Nat.le_refl _) ⟨rfl, rfl⟩
set_option maxHeartbeats 4000000 in
set_option maxRecDepth 20000 in
theorem t_X12_why {G : yb_G} {X : List (FieldType × Nat)} {a1 : Int32} {a2 : Int32} {s : yb_S} {out : Int32} (h : f_X12_why a1 a2 s = some out) : Ct G yX12_why cX12_why 3 (Option.some .int) (yb_rm 2) [.ref (yb_ad G 176), .int a1, .int a2] (yb_mk s X) (yb_qi X s out) := by
  refine Ct.of (own := RX12) (ini := false) (vs := [some (.ref (yb_ad G 176)), some (.int a1), some (.int a2)]) ⟨rfl, by decide +kernel⟩ (fun h => by cases h) (Nat.le_of_ble_eq_true rfl) rfl ?_
  unfold f_X12_why at h
  refine n_iload_n (i := 1) dX12_why_0 rfl rfl ?_
  refine n_i2l dX12_why_1 ?_
  refine n_lconst (0 : Int64) dX12_why_2 rfl ?_
  refine n_ldc2 (5 : Int64) k_X12_285 dX12_why_3 ?_
  obtain ⟨q1, hq1, h⟩ := yb_bind h
  refine p_callSi (As := [.long (a1.toInt64), .long (0 : Int64), .long (5 : Int64)]) (t_X12_in hq1) cs_X12_247 rfl rfl (Nat.le_of_ble_eq_true rfl) dX12_why_6 (yb_rok (Nat.le_of_ble_eq_true rfl) (by decide)) ⟨rfl, rfl⟩ ⟨Nat.le_refl _, Nat.le_refl _⟩ (fun k2 => ?_)
  refine n_if_eq 35 dX12_why_9 (by decide) (fun c3 => ?_) (fun c3 => ?_)
  · have h := yb_ifp c3 h
    refine n_iconst (-1 : Int32) dX12_why_35 ic_m1 ?_
    cases h
    exact n_iret dX12_why_36 rfl rfl (Nat.le_refl _) (Nat.le_refl _) ⟨rfl, rfl⟩
  · have h := yb_ifn c3 h
    refine n_iload_n (i := 2) dX12_why_12 rfl rfl ?_
    refine n_i2l dX12_why_13 ?_
    refine n_lconst (0 : Int64) dX12_why_14 rfl ?_
    refine n_aload_n (i := 0) dX12_why_15 rfl rfl ?_
    refine p_geti fl_X12_275 (sh_176 _ _) rfl dX12_why_16 ?_
    refine n_i2l dX12_why_19 ?_
    obtain ⟨q4, hq4, h⟩ := yb_bind h
    refine p_callSi (As := [.long (a2.toInt64), .long (0 : Int64), .long ((s.1 176 7).toInt64)]) (t_X12_in hq4) cs_X12_247 rfl rfl (Nat.le_of_ble_eq_true rfl) dX12_why_20 (yb_rok (Nat.le_of_ble_eq_true rfl) (by decide)) ⟨rfl, rfl⟩ ⟨Nat.le_refl _, Nat.le_refl _⟩ (fun k5 => ?_)
    refine n_if_eq 35 dX12_why_23 (by decide) (fun c6 => ?_) (fun c6 => ?_)
    · have h := yb_ifp c6 h
      refine n_iconst (-1 : Int32) dX12_why_35 ic_m1 ?_
      cases h
      exact n_iret dX12_why_36 rfl rfl (Nat.le_refl _) (Nat.le_refl _) ⟨rfl, rfl⟩
    · have h := yb_ifn c6 h
      refine n_aload_n (i := 0) dX12_why_26 rfl rfl ?_
      refine n_iload_n (i := 1) dX12_why_27 rfl rfl ?_
      refine n_iload_n (i := 2) dX12_why_28 rfl rfl ?_
      obtain ⟨q7, hq7, h⟩ := yb_bind h
      refine p_callVi (As := [.int a1, .int a2]) (t_X12_sheetFor hq7) cv_X12_443 (sh_176 _ _) rfl rfl (Nat.le_of_ble_eq_true rfl) dX12_why_29 (yb_rok (Nat.le_of_ble_eq_true rfl) (by decide)) ⟨rfl, rfl⟩ ⟨Nat.le_refl _, Nat.le_refl _⟩ (fun k8 => ?_)
      refine n_goto 36 dX12_why_32 (by decide) ?_
      cases h
      exact n_iret dX12_why_36 rfl rfl (Nat.le_refl _) (Nat.le_refl _) ⟨rfl, rfl⟩
set_option maxHeartbeats 4000000 in
set_option maxRecDepth 20000 in
theorem tj_X12_wish_33 {G : yb_G} {X : List (FieldType × Nat)} {x1 : Int32} {x2 : Int32} {s : yb_S} {out : (Int32 × yb_S)} (h : j_X12_wish_33 x1 x2 s = some out) : Rn G RX12 cX12_wish 3 (Option.some .boolean) false (yb_rm 3) (yb_qi X out.2 out.1) 0 0 33 [some (.ref (yb_ad G 176)), some (.int x1), some (.int x2)] [] (yb_mk s X) := by
  unfold j_X12_wish_33 at h
  refine n_aload_n (i := 0) dX12_wish_33 rfl rfl ?_
  refine p_getr fl_X12_78 (sh_176 _ _) rfl (rR_176_26 _ _) dX12_wish_34 ?_
  refine n_iload_n (i := 1) dX12_wish_37 rfl rfl ?_
  refine n_iload_n (i := 2) dX12_wish_38 rfl rfl ?_
  obtain ⟨s7, hs7, h⟩ := yb_bind h
  refine p_iast hs7 (sh_199 _ _) dX12_wish_39 ?_
  refine n_iconst (1 : Int32) dX12_wish_40 ic_1 ?_
  cases h
  exact n_iret dX12_wish_41 rfl (by decide) (Nat.le_refl _) (Nat.le_refl _) ⟨rfl, rfl⟩
set_option maxHeartbeats 4000000 in
set_option maxRecDepth 20000 in
theorem t_X12_wish {G : yb_G} {X : List (FieldType × Nat)} {a1 : Int32} {a2 : Int32} {s : yb_S} {out : (Int32 × yb_S)} (h : f_X12_wish a1 a2 s = some out) : Ct G yX12_wish cX12_wish 3 (Option.some .boolean) (yb_rm 3) [.ref (yb_ad G 176), .int a1, .int a2] (yb_mk s X) (yb_qi X out.2 out.1) := by
  refine Ct.of (own := RX12) (ini := false) (vs := [some (.ref (yb_ad G 176)), some (.int a1), some (.int a2)]) ⟨rfl, by decide +kernel⟩ (fun h => by cases h) (Nat.le_of_ble_eq_true rfl) rfl ?_
  unfold f_X12_wish at h
  refine n_aload_n (i := 0) dX12_wish_0 rfl rfl ?_
  refine n_iload_n (i := 1) dX12_wish_1 rfl rfl ?_
  obtain ⟨q1, hq1, h⟩ := yb_bind h
  refine p_callVi (As := [.int a1]) (t_X12_isFamily hq1) cv_X12_282 (sh_176 _ _) rfl rfl (Nat.le_of_ble_eq_true rfl) dX12_wish_2 (yb_rok (Nat.le_of_ble_eq_true rfl) (by decide)) ⟨rfl, rfl⟩ ⟨Nat.le_refl _, Nat.le_refl _⟩ (fun k2 => ?_)
  refine n_if_eq 31 dX12_wish_5 (by decide) (fun c3 => ?_) (fun c3 => ?_)
  · have h := yb_ifp c3 h
    refine n_iconst (0 : Int32) dX12_wish_31 ic_0 ?_
    cases h
    exact n_iret dX12_wish_32 rfl (by decide) (Nat.le_refl _) (Nat.le_refl _) ⟨rfl, rfl⟩
  · have h := yb_ifn c3 h
    refine n_aload_n (i := 0) dX12_wish_8 rfl rfl ?_
    refine p_getr fl_X12_66 (sh_176 _ _) rfl (rR_176_22 _ _) dX12_wish_9 ?_
    refine n_iload_n (i := 1) dX12_wish_12 rfl rfl ?_
    obtain ⟨v4, hv4, h⟩ := yb_bind h
    refine p_iald hv4 (sh_195 _ _) dX12_wish_13 ?_
    refine n_iconst (2 : Int32) dX12_wish_14 ic_2 ?_
    refine n_icmp_eq 31 dX12_wish_15 (by decide) (fun c5 => ?_) (fun c5 => ?_)
    · have h := yb_ifp c5 h
      refine n_iconst (0 : Int32) dX12_wish_31 ic_0 ?_
      cases h
      exact n_iret dX12_wish_32 rfl (by decide) (Nat.le_refl _) (Nat.le_refl _) ⟨rfl, rfl⟩
    · have h := yb_ifn c5 h
      refine n_iload_n (i := 2) dX12_wish_18 rfl rfl ?_
      refine n_iconst (-1 : Int32) dX12_wish_19 ic_m1 ?_
      refine n_icmp_eq 33 dX12_wish_20 (by decide) (fun c6 => ?_) (fun c6 => ?_)
      · have h := yb_ifp c6 h
        exact p_jump (tj_X12_wish_33 h) (And.intro rfl (And.intro rfl (And.intro rfl trivial)))
      · have h := yb_ifn c6 h
        refine n_aload_n (i := 0) dX12_wish_23 rfl rfl ?_
        refine n_iload_n (i := 2) dX12_wish_24 rfl rfl ?_
        obtain ⟨q8, hq8, h⟩ := yb_bind h
        refine p_callVi (As := [.int a2]) (t_X12_isTown hq8) cv_X12_261 (sh_176 _ _) rfl rfl (Nat.le_of_ble_eq_true rfl) dX12_wish_25 (yb_rok (Nat.le_of_ble_eq_true rfl) (by decide)) ⟨rfl, rfl⟩ ⟨Nat.le_refl _, Nat.le_refl _⟩ (fun k9 => ?_)
        refine n_if_ne 33 dX12_wish_28 (by decide) (fun c10 => ?_) (fun c10 => ?_)
        · have h := yb_ifn c10 h
          exact p_jump (tj_X12_wish_33 h) (And.intro rfl (And.intro rfl (And.intro rfl trivial)))
        · have h := yb_ifp c10 h
          refine n_iconst (0 : Int32) dX12_wish_31 ic_0 ?_
          cases h
          exact n_iret dX12_wish_32 rfl (by decide) (Nat.le_refl _) (Nat.le_refl _) ⟨rfl, rfl⟩
set_option maxHeartbeats 4000000 in
set_option maxRecDepth 20000 in
theorem tj_X12_worst_84 {G : yb_G} {X : List (FieldType × Nat)} {rc38 : (Int32 → Int32 → Option Int32)} {x1 : Int32} {x2 : Int32} {x3 : Int32} {x4 : Int32} {s : yb_S} {out : Int32} (hrc38 : ∀ (x3' : Int32) (x4' : Int32), rc38 x3' x4' = some out → Rn G RX12 cX12_worst 6 (Option.some .int) false (yb_rm 3) (yb_qi X s out) 0 0 38 [some (.ref (yb_ad G 176)), some (.int x1), some (.int x2), some (.int x3'), some (.int x4'), none] [] (yb_mk s X)) (h : j_X12_worst_84 rc38 x1 x2 x3 x4 s = some out) : Rn G RX12 cX12_worst 6 (Option.some .int) false (yb_rm 3) (yb_qi X s out) 0 0 84 [some (.ref (yb_ad G 176)), some (.int x1), some (.int x2), some (.int x3), some (.int x4), none] [] (yb_mk s X) := by
  unfold j_X12_worst_84 at h
  refine n_iinc (vs' := [some (.ref (yb_ad G 176)), some (.int x1), some (.int x2), some (.int x3), some (.int (x4 + (1 : Int32))), none]) dX12_worst_84 rfl (ii_1 _) (Nat.le_of_ble_eq_true rfl) rfl rfl ?_
  refine n_goto 38 dX12_worst_87 (by decide) ?_
  exact p_jump (hrc38 x3 (x4 + (1 : Int32)) h) (And.intro rfl (And.intro rfl (And.intro rfl (And.intro rfl (And.intro rfl trivial)))))
set_option maxHeartbeats 4000000 in
set_option maxRecDepth 20000 in
theorem tj_X12_worst_75 {G : yb_G} {X : List (FieldType × Nat)} {rc38 : (Int32 → Int32 → Option Int32)} {x1 : Int32} {x2 : Int32} {x3 : Int32} {x4 : Int32} {x5 : Int32} {s : yb_S} {out : Int32} (hrc38 : ∀ (x3' : Int32) (x4' : Int32), rc38 x3' x4' = some out → Rn G RX12 cX12_worst 6 (Option.some .int) false (yb_rm 3) (yb_qi X s out) 0 0 38 [some (.ref (yb_ad G 176)), some (.int x1), some (.int x2), some (.int x3'), some (.int x4'), none] [] (yb_mk s X)) (h : j_X12_worst_75 rc38 x1 x2 x3 x4 x5 s = some out) : Rn G RX12 cX12_worst 6 (Option.some .int) false (yb_rm 3) (yb_qi X s out) 0 0 75 [some (.ref (yb_ad G 176)), some (.int x1), some (.int x2), some (.int x3), some (.int x4), some (.int x5)] [] (yb_mk s X) := by
  unfold j_X12_worst_75 at h
  refine n_iload dX12_worst_75 rfl ?_
  refine n_iload_n (i := 3) dX12_worst_77 rfl rfl ?_
  refine n_icmp_le 84 dX12_worst_78 (by decide) (fun c13 => ?_) (fun c13 => ?_)
  · have h := yb_ifp c13 h
    exact p_jump (tj_X12_worst_84 hrc38 h) (And.intro rfl (And.intro rfl (And.intro rfl (And.intro rfl (And.intro rfl trivial)))))
  · have h := yb_ifn c13 h
    refine n_iload dX12_worst_81 rfl ?_
    refine n_istore_n (i := 3) (vs' := [some (.ref (yb_ad G 176)), some (.int x1), some (.int x2), some (.int x5), some (.int x4), some (.int x5)]) dX12_worst_83 rfl (Nat.le_of_ble_eq_true rfl) rfl rfl ?_
    exact p_jump (tj_X12_worst_84 hrc38 h) (And.intro rfl (And.intro rfl (And.intro rfl (And.intro rfl (And.intro rfl trivial)))))
set_option maxHeartbeats 4000000 in
set_option maxRecDepth 20000 in
theorem tj_X12_worst_57 {G : yb_G} {X : List (FieldType × Nat)} {rc38 : (Int32 → Int32 → Option Int32)} {x1 : Int32} {x2 : Int32} {x3 : Int32} {x4 : Int32} {y0 : Int32} {y1 : Int32} {s : yb_S} {out : Int32} (hrc38 : ∀ (x3' : Int32) (x4' : Int32), rc38 x3' x4' = some out → Rn G RX12 cX12_worst 6 (Option.some .int) false (yb_rm 3) (yb_qi X s out) 0 0 38 [some (.ref (yb_ad G 176)), some (.int x1), some (.int x2), some (.int x3'), some (.int x4'), none] [] (yb_mk s X)) (h : j_X12_worst_57 rc38 x1 x2 x3 x4 y0 y1 s = some out) : Rn G RX12 cX12_worst 6 (Option.some .int) false (yb_rm 3) (yb_qi X s out) 0 0 57 [some (.ref (yb_ad G 176)), some (.int x1), some (.int x2), some (.int x3), some (.int x4), none] [.int y0, .int y1, .ref (yb_ad G 176)] (yb_mk s X) := by
  unfold j_X12_worst_57 at h
  obtain ⟨q10, hq10, h⟩ := yb_bind h
  refine p_callVi (As := [.int y1, .int y0]) (t_X12_lacks hq10) cv_X12_586 (sh_176 _ _) rfl rfl (Nat.le_of_ble_eq_true rfl) dX12_worst_57 (yb_rok (Nat.le_of_ble_eq_true rfl) (by decide)) ⟨rfl, rfl⟩ ⟨Nat.le_refl _, Nat.le_refl _⟩ (fun k11 => ?_)
  refine n_istore (i := 5) (vs' := [some (.ref (yb_ad G 176)), some (.int x1), some (.int x2), some (.int x3), some (.int x4), some (.int q10)]) dX12_worst_60 (Nat.le_of_ble_eq_true rfl) rfl rfl ?_
  refine n_iload_n (i := 2) dX12_worst_62 rfl rfl ?_
  refine n_iconst (1 : Int32) dX12_worst_63 ic_1 ?_
  refine n_icmp_ne 75 dX12_worst_64 (by decide) (fun c12 => ?_) (fun c12 => ?_)
  · have h := yb_ifn c12 h
    exact p_jump (tj_X12_worst_75 hrc38 h) (And.intro rfl (And.intro rfl (And.intro rfl (And.intro rfl (And.intro rfl (And.intro rfl trivial))))))
  · have h := yb_ifp c12 h
    refine n_iload dX12_worst_67 rfl ?_
    refine n_if_le 75 dX12_worst_69 (by decide) (fun c14 => ?_) (fun c14 => ?_)
    · have h := yb_ifp c14 h
      exact p_jump (tj_X12_worst_75 hrc38 h) (And.intro rfl (And.intro rfl (And.intro rfl (And.intro rfl (And.intro rfl (And.intro rfl trivial))))))
    · have h := yb_ifn c14 h
      refine n_iload dX12_worst_72 rfl ?_
      cases h
      exact n_iret dX12_worst_74 rfl rfl (Nat.le_refl _) (Nat.le_refl _) ⟨rfl, rfl⟩
set_option maxHeartbeats 4000000 in
set_option maxRecDepth 20000 in
theorem t_l_X12_worst_38 {G : yb_G} {X : List (FieldType × Nat)} {x1 : Int32} {x2 : Int32} {s : yb_S} {out : Int32} : ∀ (k0 : Nat) (x3 : Int32) (x4 : Int32), l_X12_worst_38 x1 x2 s k0 x3 x4 = some out → Rn G RX12 cX12_worst 6 (Option.some .int) false (yb_rm 3) (yb_qi X s out) 0 0 38 [some (.ref (yb_ad G 176)), some (.int x1), some (.int x2), some (.int x3), some (.int x4), none] [] (yb_mk s X) := by
  intro k0
  induction k0 with
  | zero => intro x3 x4 h; cases h
  | succ k0 ih =>
    intro x3 x4 h
    have h : f_X12_worst_38 (fun x3 x4 => l_X12_worst_38 x1 x2 s k0 x3 x4) x1 x2 s x3 x4 = some out := h
    have hrc38 := ih
    unfold f_X12_worst_38 at h
    refine n_iload dX12_worst_38 rfl ?_
    refine n_iload_n (i := 1) dX12_worst_40 rfl rfl ?_
    refine n_icmp_gt 90 dX12_worst_41 (by decide) (fun c7 => ?_) (fun c7 => ?_)
    · have h := yb_ifp c7 h
      refine n_iload_n (i := 2) dX12_worst_90 rfl rfl ?_
      refine n_iconst (1 : Int32) dX12_worst_91 ic_1 ?_
      refine n_icmp_ne 99 dX12_worst_92 (by decide) (fun c8 => ?_) (fun c8 => ?_)
      · have h := yb_ifn c8 h
        refine n_iload_n (i := 3) dX12_worst_99 rfl rfl ?_
        cases h
        exact n_iret dX12_worst_100 rfl rfl (Nat.le_refl _) (Nat.le_refl _) ⟨rfl, rfl⟩
      · have h := yb_ifp c8 h
        refine n_iconst (-1 : Int32) dX12_worst_95 ic_m1 ?_
        refine n_goto 100 dX12_worst_96 (by decide) ?_
        cases h
        exact n_iret dX12_worst_100 rfl rfl (Nat.le_refl _) (Nat.le_refl _) ⟨rfl, rfl⟩
    · have h := yb_ifn c7 h
      refine n_aload_n (i := 0) dX12_worst_44 rfl rfl ?_
      refine n_iload dX12_worst_45 rfl ?_
      refine n_iload_n (i := 2) dX12_worst_47 rfl rfl ?_
      refine n_iconst (2 : Int32) dX12_worst_48 ic_2 ?_
      refine n_icmp_ge 56 dX12_worst_49 (by decide) (fun c9 => ?_) (fun c9 => ?_)
      · have h := yb_ifp c9 h
        refine n_iconst (0 : Int32) dX12_worst_56 ic_0 ?_
        exact p_jump (tj_X12_worst_57 hrc38 h) (And.intro rfl (And.intro rfl (And.intro rfl (And.intro rfl (And.intro rfl trivial)))))
      · have h := yb_ifn c9 h
        refine n_iconst (1 : Int32) dX12_worst_52 ic_1 ?_
        refine n_goto 57 dX12_worst_53 (by decide) ?_
        exact p_jump (tj_X12_worst_57 hrc38 h) (And.intro rfl (And.intro rfl (And.intro rfl (And.intro rfl (And.intro rfl trivial)))))
set_option maxHeartbeats 4000000 in
set_option maxRecDepth 20000 in
theorem tl_X12_worst_38 {G : yb_G} {X : List (FieldType × Nat)} {x1 : Int32} {x2 : Int32} {s : yb_S} {out : Int32} {x3 : Int32} {x4 : Int32} (h : l_X12_worst_38 x1 x2 s yb_N x3 x4 = some out) : Rn G RX12 cX12_worst 6 (Option.some .int) false (yb_rm 3) (yb_qi X s out) 0 0 38 [some (.ref (yb_ad G 176)), some (.int x1), some (.int x2), some (.int x3), some (.int x4), none] [] (yb_mk s X) := t_l_X12_worst_38 _ _ _ h
set_option maxHeartbeats 4000000 in
set_option maxRecDepth 20000 in
theorem t_X12_worst {G : yb_G} {X : List (FieldType × Nat)} {a1 : Int32} {a2 : Int32} {s : yb_S} {out : Int32} (h : f_X12_worst a1 a2 s = some out) : Ct G yX12_worst cX12_worst 6 (Option.some .int) (yb_rm 3) [.ref (yb_ad G 176), .int a1, .int a2] (yb_mk s X) (yb_qi X s out) := by
  refine Ct.of (own := RX12) (ini := false) (vs := [some (.ref (yb_ad G 176)), some (.int a1), some (.int a2), none, none, none]) ⟨rfl, by decide +kernel⟩ (fun h => by cases h) (Nat.le_of_ble_eq_true rfl) rfl ?_
  unfold f_X12_worst at h
  refine n_iload_n (i := 1) dX12_worst_0 rfl rfl ?_
  refine n_i2l dX12_worst_1 ?_
  refine n_aload_n (i := 0) dX12_worst_2 rfl rfl ?_
  refine p_geti fl_X12_275 (sh_176 _ _) rfl dX12_worst_3 ?_
  refine n_i2l dX12_worst_6 ?_
  refine n_ldc2 (200 : Int64) k_X12_270 dX12_worst_7 ?_
  obtain ⟨q1, hq1, h⟩ := yb_bind h
  refine p_callSi (As := [.long (a1.toInt64), .long ((s.1 176 7).toInt64), .long (200 : Int64)]) (t_X12_in hq1) cs_X12_247 rfl rfl (Nat.le_of_ble_eq_true rfl) dX12_worst_10 (yb_rok (Nat.le_of_ble_eq_true rfl) (by decide)) ⟨rfl, rfl⟩ ⟨Nat.le_refl _, Nat.le_refl _⟩ (fun k2 => ?_)
  refine n_if_eq 28 dX12_worst_13 (by decide) (fun c3 => ?_) (fun c3 => ?_)
  · have h := yb_ifp c3 h
    refine n_iconst (-1 : Int32) dX12_worst_28 ic_m1 ?_
    cases h
    exact n_iret dX12_worst_29 rfl rfl (Nat.le_refl _) (Nat.le_refl _) ⟨rfl, rfl⟩
  · have h := yb_ifn c3 h
    refine n_iload_n (i := 2) dX12_worst_16 rfl rfl ?_
    refine n_i2l dX12_worst_17 ?_
    refine n_lconst (0 : Int64) dX12_worst_18 rfl ?_
    refine n_ldc2 (2 : Int64) k_X12_293 dX12_worst_19 ?_
    obtain ⟨q4, hq4, h⟩ := yb_bind h
    refine p_callSi (As := [.long (a2.toInt64), .long (0 : Int64), .long (2 : Int64)]) (t_X12_in hq4) cs_X12_247 rfl rfl (Nat.le_of_ble_eq_true rfl) dX12_worst_22 (yb_rok (Nat.le_of_ble_eq_true rfl) (by decide)) ⟨rfl, rfl⟩ ⟨Nat.le_refl _, Nat.le_refl _⟩ (fun k5 => ?_)
    refine n_if_ne 30 dX12_worst_25 (by decide) (fun c6 => ?_) (fun c6 => ?_)
    · have h := yb_ifn c6 h
      refine n_iconst (0 : Int32) dX12_worst_30 ic_0 ?_
      refine n_istore_n (i := 3) (vs' := [some (.ref (yb_ad G 176)), some (.int a1), some (.int a2), some (.int (0 : Int32)), none, none]) dX12_worst_31 rfl (Nat.le_of_ble_eq_true rfl) rfl rfl ?_
      refine n_aload_n (i := 0) dX12_worst_32 rfl rfl ?_
      refine p_geti fl_X12_275 (sh_176 _ _) rfl dX12_worst_33 ?_
      refine n_istore (i := 4) (vs' := [some (.ref (yb_ad G 176)), some (.int a1), some (.int a2), some (.int (0 : Int32)), some (.int (s.1 176 7)), none]) dX12_worst_36 (Nat.le_of_ble_eq_true rfl) rfl rfl ?_
      exact p_jump (tl_X12_worst_38 h) (And.intro rfl (And.intro rfl (And.intro rfl (And.intro rfl (And.intro rfl trivial)))))
    · have h := yb_ifp c6 h
      refine n_iconst (-1 : Int32) dX12_worst_28 ic_m1 ?_
      cases h
      exact n_iret dX12_worst_29 rfl rfl (Nat.le_refl _) (Nat.le_refl _) ⟨rfl, rfl⟩
