/-! WALKS: the machine follows the functions, piece 5 of 7 -/
set_option maxHeartbeats 4000000 in
set_option maxRecDepth 20000 in
theorem t_X12_done {G : yb_G} {X : List (FieldType × Nat)} {a0 : Int32} {a1 : Int32} {a2 : Int32} {s : yb_S} {out : Int32} (h : f_X12_done a0 a1 a2 s = some out) : Ct G yX12_done cX12_done 3 (Option.some .int) (yb_rm 2) [.int a0, .int a1, .int a2] (yb_mk s X) (yb_qi X s out) := by
  refine Ct.of (own := RX12) (ini := false) (vs := [some (.int a0), some (.int a1), some (.int a2)]) ⟨rfl, by decide +kernel⟩ (fun h => by cases h) (Nat.le_of_ble_eq_true rfl) rfl ?_
  unfold f_X12_done at h
  refine n_iload_n (i := 0) dX12_done_0 rfl rfl ?_
  by_cases c1 : a0 = (38 : Int32)
  · have h := yb_ifp c1 h
    refine n_tableIn (off := 187) 188 dX12_done_1 (by rw [c1]; decide) (by rw [c1]; decide) (by rw [c1]; decide) (by decide) ?_
    refine n_iload_n (i := 1) dX12_done_188 rfl rfl ?_
    refine n_iload_n (i := 2) dX12_done_189 rfl rfl ?_
    refine n_iand dX12_done_190 ?_
    cases h
    exact n_iret dX12_done_191 rfl rfl (Nat.le_refl _) (Nat.le_refl _) ⟨rfl, rfl⟩
  · have h := yb_ifn c1 h
    by_cases c2 : a0 = (39 : Int32)
    · have h := yb_ifp c2 h
      refine n_tableIn (off := 191) 192 dX12_done_1 (by rw [c2]; decide) (by rw [c2]; decide) (by rw [c2]; decide) (by decide) ?_
      refine n_iload_n (i := 1) dX12_done_192 rfl rfl ?_
      refine n_iload_n (i := 2) dX12_done_193 rfl rfl ?_
      refine n_ior dX12_done_194 ?_
      cases h
      exact n_iret dX12_done_195 rfl rfl (Nat.le_refl _) (Nat.le_refl _) ⟨rfl, rfl⟩
    · have h := yb_ifn c2 h
      by_cases c3 : a0 = (40 : Int32)
      · have h := yb_ifp c3 h
        refine n_tableIn (off := 191) 192 dX12_done_1 (by rw [c3]; decide) (by rw [c3]; decide) (by rw [c3]; decide) (by decide) ?_
        refine n_iload_n (i := 1) dX12_done_192 rfl rfl ?_
        refine n_iload_n (i := 2) dX12_done_193 rfl rfl ?_
        refine n_ior dX12_done_194 ?_
        cases h
        exact n_iret dX12_done_195 rfl rfl (Nat.le_refl _) (Nat.le_refl _) ⟨rfl, rfl⟩
      · have h := yb_ifn c3 h
        by_cases c4 : a0 = (41 : Int32)
        · have h := yb_ifp c4 h
          refine n_tableIn (off := 191) 192 dX12_done_1 (by rw [c4]; decide) (by rw [c4]; decide) (by rw [c4]; decide) (by decide) ?_
          refine n_iload_n (i := 1) dX12_done_192 rfl rfl ?_
          refine n_iload_n (i := 2) dX12_done_193 rfl rfl ?_
          refine n_ior dX12_done_194 ?_
          cases h
          exact n_iret dX12_done_195 rfl rfl (Nat.le_refl _) (Nat.le_refl _) ⟨rfl, rfl⟩
        · have h := yb_ifn c4 h
          by_cases c5 : a0 = (42 : Int32)
          · have h := yb_ifp c5 h
            refine n_tableIn (off := 133) 134 dX12_done_1 (by rw [c5]; decide) (by rw [c5]; decide) (by rw [c5]; decide) (by decide) ?_
            refine n_iload_n (i := 1) dX12_done_134 rfl rfl ?_
            refine n_i2l dX12_done_135 ?_
            refine n_iload_n (i := 2) dX12_done_136 rfl rfl ?_
            refine n_i2l dX12_done_137 ?_
            refine n_lmul dX12_done_138 ?_
            obtain ⟨q26, hq26, h⟩ := yb_bind h
            refine p_callSi (As := [.long ((a1.toInt64) * (a2.toInt64))]) (t_X12_brought hq26) cs_X12_450 rfl rfl (Nat.le_of_ble_eq_true rfl) dX12_done_139 (yb_rok (Nat.le_of_ble_eq_true rfl) (by decide)) ⟨rfl, rfl⟩ ⟨Nat.le_refl _, Nat.le_refl _⟩ (fun k27 => ?_)
            cases h
            exact n_iret dX12_done_142 rfl rfl (Nat.le_refl _) (Nat.le_refl _) ⟨rfl, rfl⟩
          · have h := yb_ifn c5 h
            by_cases c6 : a0 = (43 : Int32)
            · have h := yb_ifp c6 h
              refine n_tableIn (off := 115) 116 dX12_done_1 (by rw [c6]; decide) (by rw [c6]; decide) (by rw [c6]; decide) (by decide) ?_
              refine n_iload_n (i := 1) dX12_done_116 rfl rfl ?_
              refine n_i2l dX12_done_117 ?_
              refine n_iload_n (i := 2) dX12_done_118 rfl rfl ?_
              refine n_i2l dX12_done_119 ?_
              refine n_ladd dX12_done_120 ?_
              obtain ⟨q28, hq28, h⟩ := yb_bind h
              refine p_callSi (As := [.long ((a1.toInt64) + (a2.toInt64))]) (t_X12_brought hq28) cs_X12_450 rfl rfl (Nat.le_of_ble_eq_true rfl) dX12_done_121 (yb_rok (Nat.le_of_ble_eq_true rfl) (by decide)) ⟨rfl, rfl⟩ ⟨Nat.le_refl _, Nat.le_refl _⟩ (fun k29 => ?_)
              cases h
              exact n_iret dX12_done_124 rfl rfl (Nat.le_refl _) (Nat.le_refl _) ⟨rfl, rfl⟩
            · have h := yb_ifn c6 h
              by_cases c7 : a0 = (44 : Int32)
              · have h := yb_ifp c7 h
                refine n_tableIn (off := 191) 192 dX12_done_1 (by rw [c7]; decide) (by rw [c7]; decide) (by rw [c7]; decide) (by decide) ?_
                refine n_iload_n (i := 1) dX12_done_192 rfl rfl ?_
                refine n_iload_n (i := 2) dX12_done_193 rfl rfl ?_
                refine n_ior dX12_done_194 ?_
                cases h
                exact n_iret dX12_done_195 rfl rfl (Nat.le_refl _) (Nat.le_refl _) ⟨rfl, rfl⟩
              · have h := yb_ifn c7 h
                by_cases c8 : a0 = (45 : Int32)
                · have h := yb_ifp c8 h
                  refine n_tableIn (off := 124) 125 dX12_done_1 (by rw [c8]; decide) (by rw [c8]; decide) (by rw [c8]; decide) (by decide) ?_
                  refine n_iload_n (i := 1) dX12_done_125 rfl rfl ?_
                  refine n_i2l dX12_done_126 ?_
                  refine n_iload_n (i := 2) dX12_done_127 rfl rfl ?_
                  refine n_i2l dX12_done_128 ?_
                  refine n_lsub dX12_done_129 ?_
                  obtain ⟨q30, hq30, h⟩ := yb_bind h
                  refine p_callSi (As := [.long ((a1.toInt64) - (a2.toInt64))]) (t_X12_brought hq30) cs_X12_450 rfl rfl (Nat.le_of_ble_eq_true rfl) dX12_done_130 (yb_rok (Nat.le_of_ble_eq_true rfl) (by decide)) ⟨rfl, rfl⟩ ⟨Nat.le_refl _, Nat.le_refl _⟩ (fun k31 => ?_)
                  cases h
                  exact n_iret dX12_done_133 rfl rfl (Nat.le_refl _) (Nat.le_refl _) ⟨rfl, rfl⟩
                · have h := yb_ifn c8 h
                  by_cases c9 : a0 = (46 : Int32)
                  · have h := yb_ifp c9 h
                    refine n_tableIn (off := 191) 192 dX12_done_1 (by rw [c9]; decide) (by rw [c9]; decide) (by rw [c9]; decide) (by decide) ?_
                    refine n_iload_n (i := 1) dX12_done_192 rfl rfl ?_
                    refine n_iload_n (i := 2) dX12_done_193 rfl rfl ?_
                    refine n_ior dX12_done_194 ?_
                    cases h
                    exact n_iret dX12_done_195 rfl rfl (Nat.le_refl _) (Nat.le_refl _) ⟨rfl, rfl⟩
                  · have h := yb_ifn c9 h
                    by_cases c10 : a0 = (47 : Int32)
                    · have h := yb_ifp c10 h
                      refine n_tableIn (off := 142) 143 dX12_done_1 (by rw [c10]; decide) (by rw [c10]; decide) (by rw [c10]; decide) (by decide) ?_
                      refine n_iload_n (i := 2) dX12_done_143 rfl rfl ?_
                      refine n_if_ne 151 dX12_done_144 (by decide) (fun c32 => ?_) (fun c32 => ?_)
                      · have h := yb_ifn c32 h
                        refine n_iload_n (i := 1) dX12_done_151 rfl rfl ?_
                        refine n_iload_n (i := 2) dX12_done_152 rfl rfl ?_
                        obtain ⟨v33, hv33, h⟩ := yb_bind h
                        refine p_dv hv33 dX12_done_153 ?_
                        cases h
                        exact n_iret dX12_done_154 rfl rfl (Nat.le_refl _) (Nat.le_refl _) ⟨rfl, rfl⟩
                      · have h := yb_ifp c32 h
                        refine n_iconst (0 : Int32) dX12_done_147 ic_0 ?_
                        refine n_goto 154 dX12_done_148 (by decide) ?_
                        cases h
                        exact n_iret dX12_done_154 rfl rfl (Nat.le_refl _) (Nat.le_refl _) ⟨rfl, rfl⟩
                    · have h := yb_ifn c10 h
                      by_cases c11 : a0 = (48 : Int32)
                      · have h := yb_ifp c11 h
                        refine n_tableIn (off := 191) 192 dX12_done_1 (by rw [c11]; decide) (by rw [c11]; decide) (by rw [c11]; decide) (by decide) ?_
                        refine n_iload_n (i := 1) dX12_done_192 rfl rfl ?_
                        refine n_iload_n (i := 2) dX12_done_193 rfl rfl ?_
                        refine n_ior dX12_done_194 ?_
                        cases h
                        exact n_iret dX12_done_195 rfl rfl (Nat.le_refl _) (Nat.le_refl _) ⟨rfl, rfl⟩
                      · have h := yb_ifn c11 h
                        by_cases c12 : a0 = (49 : Int32)
                        · have h := yb_ifp c12 h
                          refine n_tableIn (off := 191) 192 dX12_done_1 (by rw [c12]; decide) (by rw [c12]; decide) (by rw [c12]; decide) (by decide) ?_
                          refine n_iload_n (i := 1) dX12_done_192 rfl rfl ?_
                          refine n_iload_n (i := 2) dX12_done_193 rfl rfl ?_
                          refine n_ior dX12_done_194 ?_
                          cases h
                          exact n_iret dX12_done_195 rfl rfl (Nat.le_refl _) (Nat.le_refl _) ⟨rfl, rfl⟩
                        · have h := yb_ifn c12 h
                          by_cases c13 : a0 = (50 : Int32)
                          · have h := yb_ifp c13 h
                            refine n_tableIn (off := 191) 192 dX12_done_1 (by rw [c13]; decide) (by rw [c13]; decide) (by rw [c13]; decide) (by decide) ?_
                            refine n_iload_n (i := 1) dX12_done_192 rfl rfl ?_
                            refine n_iload_n (i := 2) dX12_done_193 rfl rfl ?_
                            refine n_ior dX12_done_194 ?_
                            cases h
                            exact n_iret dX12_done_195 rfl rfl (Nat.le_refl _) (Nat.le_refl _) ⟨rfl, rfl⟩
                          · have h := yb_ifn c13 h
                            by_cases c14 : a0 = (51 : Int32)
                            · have h := yb_ifp c14 h
                              refine n_tableIn (off := 191) 192 dX12_done_1 (by rw [c14]; decide) (by rw [c14]; decide) (by rw [c14]; decide) (by decide) ?_
                              refine n_iload_n (i := 1) dX12_done_192 rfl rfl ?_
                              refine n_iload_n (i := 2) dX12_done_193 rfl rfl ?_
                              refine n_ior dX12_done_194 ?_
                              cases h
                              exact n_iret dX12_done_195 rfl rfl (Nat.le_refl _) (Nat.le_refl _) ⟨rfl, rfl⟩
                            · have h := yb_ifn c14 h
                              by_cases c15 : a0 = (52 : Int32)
                              · have h := yb_ifp c15 h
                                refine n_tableIn (off := 191) 192 dX12_done_1 (by rw [c15]; decide) (by rw [c15]; decide) (by rw [c15]; decide) (by decide) ?_
                                refine n_iload_n (i := 1) dX12_done_192 rfl rfl ?_
                                refine n_iload_n (i := 2) dX12_done_193 rfl rfl ?_
                                refine n_ior dX12_done_194 ?_
                                cases h
                                exact n_iret dX12_done_195 rfl rfl (Nat.le_refl _) (Nat.le_refl _) ⟨rfl, rfl⟩
                              · have h := yb_ifn c15 h
                                by_cases c16 : a0 = (53 : Int32)
                                · have h := yb_ifp c16 h
                                  refine n_tableIn (off := 191) 192 dX12_done_1 (by rw [c16]; decide) (by rw [c16]; decide) (by rw [c16]; decide) (by decide) ?_
                                  refine n_iload_n (i := 1) dX12_done_192 rfl rfl ?_
                                  refine n_iload_n (i := 2) dX12_done_193 rfl rfl ?_
                                  refine n_ior dX12_done_194 ?_
                                  cases h
                                  exact n_iret dX12_done_195 rfl rfl (Nat.le_refl _) (Nat.le_refl _) ⟨rfl, rfl⟩
                                · have h := yb_ifn c16 h
                                  by_cases c17 : a0 = (54 : Int32)
                                  · have h := yb_ifp c17 h
                                    refine n_tableIn (off := 191) 192 dX12_done_1 (by rw [c17]; decide) (by rw [c17]; decide) (by rw [c17]; decide) (by decide) ?_
                                    refine n_iload_n (i := 1) dX12_done_192 rfl rfl ?_
                                    refine n_iload_n (i := 2) dX12_done_193 rfl rfl ?_
                                    refine n_ior dX12_done_194 ?_
                                    cases h
                                    exact n_iret dX12_done_195 rfl rfl (Nat.le_refl _) (Nat.le_refl _) ⟨rfl, rfl⟩
                                  · have h := yb_ifn c17 h
                                    by_cases c18 : a0 = (55 : Int32)
                                    · have h := yb_ifp c18 h
                                      refine n_tableIn (off := 191) 192 dX12_done_1 (by rw [c18]; decide) (by rw [c18]; decide) (by rw [c18]; decide) (by decide) ?_
                                      refine n_iload_n (i := 1) dX12_done_192 rfl rfl ?_
                                      refine n_iload_n (i := 2) dX12_done_193 rfl rfl ?_
                                      refine n_ior dX12_done_194 ?_
                                      cases h
                                      exact n_iret dX12_done_195 rfl rfl (Nat.le_refl _) (Nat.le_refl _) ⟨rfl, rfl⟩
                                    · have h := yb_ifn c18 h
                                      by_cases c19 : a0 = (56 : Int32)
                                      · have h := yb_ifp c19 h
                                        refine n_tableIn (off := 191) 192 dX12_done_1 (by rw [c19]; decide) (by rw [c19]; decide) (by rw [c19]; decide) (by decide) ?_
                                        refine n_iload_n (i := 1) dX12_done_192 rfl rfl ?_
                                        refine n_iload_n (i := 2) dX12_done_193 rfl rfl ?_
                                        refine n_ior dX12_done_194 ?_
                                        cases h
                                        exact n_iret dX12_done_195 rfl rfl (Nat.le_refl _) (Nat.le_refl _) ⟨rfl, rfl⟩
                                      · have h := yb_ifn c19 h
                                        by_cases c20 : a0 = (57 : Int32)
                                        · have h := yb_ifp c20 h
                                          refine n_tableIn (off := 191) 192 dX12_done_1 (by rw [c20]; decide) (by rw [c20]; decide) (by rw [c20]; decide) (by decide) ?_
                                          refine n_iload_n (i := 1) dX12_done_192 rfl rfl ?_
                                          refine n_iload_n (i := 2) dX12_done_193 rfl rfl ?_
                                          refine n_ior dX12_done_194 ?_
                                          cases h
                                          exact n_iret dX12_done_195 rfl rfl (Nat.le_refl _) (Nat.le_refl _) ⟨rfl, rfl⟩
                                        · have h := yb_ifn c20 h
                                          by_cases c21 : a0 = (58 : Int32)
                                          · have h := yb_ifp c21 h
                                            refine n_tableIn (off := 191) 192 dX12_done_1 (by rw [c21]; decide) (by rw [c21]; decide) (by rw [c21]; decide) (by decide) ?_
                                            refine n_iload_n (i := 1) dX12_done_192 rfl rfl ?_
                                            refine n_iload_n (i := 2) dX12_done_193 rfl rfl ?_
                                            refine n_ior dX12_done_194 ?_
                                            cases h
                                            exact n_iret dX12_done_195 rfl rfl (Nat.le_refl _) (Nat.le_refl _) ⟨rfl, rfl⟩
                                          · have h := yb_ifn c21 h
                                            by_cases c22 : a0 = (59 : Int32)
                                            · have h := yb_ifp c22 h
                                              refine n_tableIn (off := 191) 192 dX12_done_1 (by rw [c22]; decide) (by rw [c22]; decide) (by rw [c22]; decide) (by decide) ?_
                                              refine n_iload_n (i := 1) dX12_done_192 rfl rfl ?_
                                              refine n_iload_n (i := 2) dX12_done_193 rfl rfl ?_
                                              refine n_ior dX12_done_194 ?_
                                              cases h
                                              exact n_iret dX12_done_195 rfl rfl (Nat.le_refl _) (Nat.le_refl _) ⟨rfl, rfl⟩
                                            · have h := yb_ifn c22 h
                                              by_cases c23 : a0 = (60 : Int32)
                                              · have h := yb_ifp c23 h
                                                refine n_tableIn (off := 154) 155 dX12_done_1 (by rw [c23]; decide) (by rw [c23]; decide) (by rw [c23]; decide) (by decide) ?_
                                                refine n_iload_n (i := 1) dX12_done_155 rfl rfl ?_
                                                refine n_iload_n (i := 2) dX12_done_156 rfl rfl ?_
                                                refine n_icmp_ge 164 dX12_done_157 (by decide) (fun c34 => ?_) (fun c34 => ?_)
                                                · have h := yb_ifp c34 h
                                                  refine n_iconst (0 : Int32) dX12_done_164 ic_0 ?_
                                                  cases h
                                                  exact n_iret dX12_done_165 rfl rfl (Nat.le_refl _) (Nat.le_refl _) ⟨rfl, rfl⟩
                                                · have h := yb_ifn c34 h
                                                  refine n_iconst (1 : Int32) dX12_done_160 ic_1 ?_
                                                  refine n_goto 165 dX12_done_161 (by decide) ?_
                                                  cases h
                                                  exact n_iret dX12_done_165 rfl rfl (Nat.le_refl _) (Nat.le_refl _) ⟨rfl, rfl⟩
                                              · have h := yb_ifn c23 h
                                                by_cases c24 : a0 = (61 : Int32)
                                                · have h := yb_ifp c24 h
                                                  refine n_tableIn (off := 176) 177 dX12_done_1 (by rw [c24]; decide) (by rw [c24]; decide) (by rw [c24]; decide) (by decide) ?_
                                                  refine n_iload_n (i := 1) dX12_done_177 rfl rfl ?_
                                                  refine n_iload_n (i := 2) dX12_done_178 rfl rfl ?_
                                                  refine n_icmp_ne 186 dX12_done_179 (by decide) (fun c35 => ?_) (fun c35 => ?_)
                                                  · have h := yb_ifn c35 h
                                                    refine n_iconst (0 : Int32) dX12_done_186 ic_0 ?_
                                                    cases h
                                                    exact n_iret dX12_done_187 rfl rfl (Nat.le_refl _) (Nat.le_refl _) ⟨rfl, rfl⟩
                                                  · have h := yb_ifp c35 h
                                                    refine n_iconst (1 : Int32) dX12_done_182 ic_1 ?_
                                                    refine n_goto 187 dX12_done_183 (by decide) ?_
                                                    cases h
                                                    exact n_iret dX12_done_187 rfl rfl (Nat.le_refl _) (Nat.le_refl _) ⟨rfl, rfl⟩
                                                · have h := yb_ifn c24 h
                                                  by_cases c25 : a0 = (62 : Int32)
                                                  · have h := yb_ifp c25 h
                                                    refine n_tableIn (off := 165) 166 dX12_done_1 (by rw [c25]; decide) (by rw [c25]; decide) (by rw [c25]; decide) (by decide) ?_
                                                    refine n_iload_n (i := 1) dX12_done_166 rfl rfl ?_
                                                    refine n_iload_n (i := 2) dX12_done_167 rfl rfl ?_
                                                    refine n_icmp_le 175 dX12_done_168 (by decide) (fun c36 => ?_) (fun c36 => ?_)
                                                    · have h := yb_ifp c36 h
                                                      refine n_iconst (0 : Int32) dX12_done_175 ic_0 ?_
                                                      cases h
                                                      exact n_iret dX12_done_176 rfl rfl (Nat.le_refl _) (Nat.le_refl _) ⟨rfl, rfl⟩
                                                    · have h := yb_ifn c36 h
                                                      refine n_iconst (1 : Int32) dX12_done_171 ic_1 ?_
                                                      refine n_goto 176 dX12_done_172 (by decide) ?_
                                                      cases h
                                                      exact n_iret dX12_done_176 rfl rfl (Nat.le_refl _) (Nat.le_refl _) ⟨rfl, rfl⟩
                                                  · have h := yb_ifn c25 h
                                                    refine n_tableOut 192 dX12_done_1 (by have z0 := lv_neT c1 (a := 38) (by decide); have z1 := lv_neT c2 (a := 39) (by decide); have z2 := lv_neT c3 (a := 40) (by decide); have z3 := lv_neT c4 (a := 41) (by decide); have z4 := lv_neT c5 (a := 42) (by decide); have z5 := lv_neT c6 (a := 43) (by decide); have z6 := lv_neT c7 (a := 44) (by decide); have z7 := lv_neT c8 (a := 45) (by decide); have z8 := lv_neT c9 (a := 46) (by decide); have z9 := lv_neT c10 (a := 47) (by decide); have z10 := lv_neT c11 (a := 48) (by decide); have z11 := lv_neT c12 (a := 49) (by decide); have z12 := lv_neT c13 (a := 50) (by decide); have z13 := lv_neT c14 (a := 51) (by decide); have z14 := lv_neT c15 (a := 52) (by decide); have z15 := lv_neT c16 (a := 53) (by decide); have z16 := lv_neT c17 (a := 54) (by decide); have z17 := lv_neT c18 (a := 55) (by decide); have z18 := lv_neT c19 (a := 56) (by decide); have z19 := lv_neT c20 (a := 57) (by decide); have z20 := lv_neT c21 (a := 58) (by decide); have z21 := lv_neT c22 (a := 59) (by decide); have z22 := lv_neT c23 (a := 60) (by decide); have z23 := lv_neT c24 (a := 61) (by decide); have z24 := lv_neT c25 (a := 62) (by decide); omega) (by decide) ?_
                                                    refine n_iload_n (i := 1) dX12_done_192 rfl rfl ?_
                                                    refine n_iload_n (i := 2) dX12_done_193 rfl rfl ?_
                                                    refine n_ior dX12_done_194 ?_
                                                    cases h
                                                    exact n_iret dX12_done_195 rfl rfl (Nat.le_refl _) (Nat.le_refl _) ⟨rfl, rfl⟩
set_option maxHeartbeats 4000000 in
set_option maxRecDepth 20000 in
theorem tj_X12_tells_220 {G : yb_G} {X : List (FieldType × Nat)} {rc70 : (Int32 → Int32 → yb_S → Option (Int32 × yb_S))} {x1 : Int32} {x2 : Int32} {x3 : Int32} {x4 : Int32} {s : yb_S} {out : (Int32 × yb_S)} (hrc70 : ∀ (x3' : Int32) (x4' : Int32) (s' : yb_S), rc70 x3' x4' s' = some out → Rn G RX12 cX12_tells 7 (Option.some .int) false (yb_rm 3) (yb_qi X out.2 out.1) 0 0 70 [some (.ref (yb_ad G 176)), some (.int x1), some (.int x2), some (.int x3'), some (.int x4'), none, none] [] (yb_mk s' X)) (h : j_X12_tells_220 rc70 x1 x2 x3 x4 s = some out) : Rn G RX12 cX12_tells 7 (Option.some .int) false (yb_rm 3) (yb_qi X out.2 out.1) 0 0 220 [some (.ref (yb_ad G 176)), some (.int x1), some (.int x2), some (.int x3), some (.int x4), none, none] [] (yb_mk s X) := by
  unfold j_X12_tells_220 at h
  refine n_iinc (vs' := [some (.ref (yb_ad G 176)), some (.int x1), some (.int x2), some (.int x3), some (.int (x4 + (1 : Int32))), none, none]) dX12_tells_220 rfl (ii_1 _) (Nat.le_of_ble_eq_true rfl) rfl rfl ?_
  refine n_goto 70 dX12_tells_223 (by decide) ?_
  exact p_jump (hrc70 x3 (x4 + (1 : Int32)) s h) (And.intro rfl (And.intro rfl (And.intro rfl (And.intro rfl (And.intro rfl trivial)))))
set_option maxHeartbeats 4000000 in
set_option maxRecDepth 20000 in
theorem tj_X12_tells_153 {G : yb_G} {X : List (FieldType × Nat)} {rc70 : (Int32 → Int32 → yb_S → Option (Int32 × yb_S))} {x1 : Int32} {x2 : Int32} {x3 : Int32} {x4 : Int32} {y0 : Int32} {y1 : Int32} {s : yb_S} {out : (Int32 × yb_S)} (hrc70 : ∀ (x3' : Int32) (x4' : Int32) (s' : yb_S), rc70 x3' x4' s' = some out → Rn G RX12 cX12_tells 7 (Option.some .int) false (yb_rm 3) (yb_qi X out.2 out.1) 0 0 70 [some (.ref (yb_ad G 176)), some (.int x1), some (.int x2), some (.int x3'), some (.int x4'), none, none] [] (yb_mk s' X)) (h : j_X12_tells_153 rc70 x1 x2 x3 x4 y0 y1 s = some out) : Rn G RX12 cX12_tells 7 (Option.some .int) false (yb_rm 3) (yb_qi X out.2 out.1) 0 0 153 [some (.ref (yb_ad G 176)), some (.int x1), some (.int x2), some (.int x3), some (.int x4), none, none] [.int y0, .int y1, .ref (yb_ad G 338)] (yb_mk s X) := by
  unfold j_X12_tells_153 at h
  obtain ⟨s18, hs18, h⟩ := yb_bind h
  refine p_iast hs18 (sh_338 _ _) dX12_tells_153 ?_
  refine n_iinc (vs' := [some (.ref (yb_ad G 176)), some (.int x1), some (.int x2), some (.int (x3 + (1 : Int32))), some (.int x4), none, none]) dX12_tells_154 rfl (ii_1 _) (Nat.le_of_ble_eq_true rfl) rfl rfl ?_
  refine n_goto 220 dX12_tells_157 (by decide) ?_
  exact p_jump (tj_X12_tells_220 hrc70 h) (And.intro rfl (And.intro rfl (And.intro rfl (And.intro rfl (And.intro rfl trivial)))))
set_option maxHeartbeats 4000000 in
set_option maxRecDepth 20000 in
theorem tj_X12_tells_129 {G : yb_G} {X : List (FieldType × Nat)} {rc70 : (Int32 → Int32 → yb_S → Option (Int32 × yb_S))} {x1 : Int32} {x2 : Int32} {x3 : Int32} {x4 : Int32} {x5 : Int32} {x6 : Int32} {s : yb_S} {out : (Int32 × yb_S)} (hrc70 : ∀ (x3' : Int32) (x4' : Int32) (s' : yb_S), rc70 x3' x4' s' = some out → Rn G RX12 cX12_tells 7 (Option.some .int) false (yb_rm 3) (yb_qi X out.2 out.1) 0 0 70 [some (.ref (yb_ad G 176)), some (.int x1), some (.int x2), some (.int x3'), some (.int x4'), none, none] [] (yb_mk s' X)) (h : j_X12_tells_129 rc70 x1 x2 x3 x4 x5 x6 s = some out) : Rn G RX12 cX12_tells 7 (Option.some .int) false (yb_rm 3) (yb_qi X out.2 out.1) 0 0 129 [some (.ref (yb_ad G 176)), some (.int x1), some (.int x2), some (.int x3), some (.int x4), some (.int x5), some (.int x6)] [] (yb_mk s X) := by
  unfold j_X12_tells_129 at h
  refine n_aload_n (i := 0) dX12_tells_129 rfl rfl ?_
  refine p_getr fl_X12_191 (sh_176 _ _) rfl (rR_176_60 _ _) dX12_tells_130 ?_
  refine n_iload_n (i := 3) dX12_tells_133 rfl rfl ?_
  refine n_iload dX12_tells_134 rfl ?_
  refine n_bipush (110 : Int32) dX12_tells_136 bp_110 ?_
  refine n_icmp_ne 146 dX12_tells_138 (by decide) (fun c16 => ?_) (fun c16 => ?_)
  · have h := yb_ifn c16 h
    refine n_aload_n (i := 0) dX12_tells_146 rfl rfl ?_
    refine p_getr fl_X12_188 (sh_176 _ _) rfl (rR_176_59 _ _) dX12_tells_147 ?_
    refine n_iload dX12_tells_150 rfl ?_
    obtain ⟨v17, hv17, h⟩ := yb_bind h
    refine p_iald hv17 (sh_337 _ _) dX12_tells_152 ?_
    exact p_jump (tj_X12_tells_153 hrc70 h) (And.intro rfl (And.intro rfl (And.intro rfl (And.intro rfl (And.intro rfl trivial)))))
  · have h := yb_ifp c16 h
    refine n_iload dX12_tells_141 rfl ?_
    refine n_goto 153 dX12_tells_143 (by decide) ?_
    exact p_jump (tj_X12_tells_153 hrc70 h) (And.intro rfl (And.intro rfl (And.intro rfl (And.intro rfl (And.intro rfl trivial)))))
set_option maxHeartbeats 4000000 in
set_option maxRecDepth 20000 in
theorem t_l_X12_tells_70 {G : yb_G} {X : List (FieldType × Nat)} {x1 : Int32} {x2 : Int32} {out : (Int32 × yb_S)} : ∀ (k0 : Nat) (x3 : Int32) (x4 : Int32) (s : yb_S), l_X12_tells_70 x1 x2 k0 x3 x4 s = some out → Rn G RX12 cX12_tells 7 (Option.some .int) false (yb_rm 3) (yb_qi X out.2 out.1) 0 0 70 [some (.ref (yb_ad G 176)), some (.int x1), some (.int x2), some (.int x3), some (.int x4), none, none] [] (yb_mk s X) := by
  intro k0
  induction k0 with
  | zero => intro x3 x4 s h; cases h
  | succ k0 ih =>
    intro x3 x4 s h
    have h : f_X12_tells_70 (fun x3 x4 s => l_X12_tells_70 x1 x2 k0 x3 x4 s) x1 x2 x3 x4 s = some out := h
    have hrc70 := ih
    unfold f_X12_tells_70 at h
    refine n_iload dX12_tells_70 rfl ?_
    refine n_aload_n (i := 0) dX12_tells_72 rfl rfl ?_
    refine p_getr fl_X12_128 (sh_176 _ _) rfl (rR_176_51 _ _) dX12_tells_73 ?_
    refine n_iload_n (i := 2) dX12_tells_76 rfl rfl ?_
    obtain ⟨r5, hr5, h⟩ := yb_bind h
    refine p_aald hr5 (sh_321 _ _) (by decide) rfl (rF_321 _ _) dX12_tells_77 ?_
    refine n_iload_n (i := 1) dX12_tells_78 rfl rfl ?_
    obtain ⟨v6, hv6, h⟩ := yb_bind h
    refine p_iald hv6 (shF_321 hr5 _ _) dX12_tells_79 ?_
    refine n_icmp_ge 226 dX12_tells_80 (by decide) (fun c7 => ?_) (fun c7 => ?_)
    · have h := yb_ifp c7 h
      refine n_aload_n (i := 0) dX12_tells_226 rfl rfl ?_
      refine p_getr fl_X12_191 (sh_176 _ _) rfl (rR_176_60 _ _) dX12_tells_227 ?_
      refine n_iconst (0 : Int32) dX12_tells_230 ic_0 ?_
      obtain ⟨v8, hv8, h⟩ := yb_bind h
      refine p_iald hv8 (sh_338 _ _) dX12_tells_231 ?_
      cases h
      exact n_iret dX12_tells_232 rfl rfl (Nat.le_refl _) (Nat.le_refl _) ⟨rfl, rfl⟩
    · have h := yb_ifn c7 h
      refine n_aload_n (i := 0) dX12_tells_83 rfl rfl ?_
      refine p_getr fl_X12_125 (sh_176 _ _) rfl (rR_176_50 _ _) dX12_tells_84 ?_
      refine n_iload_n (i := 2) dX12_tells_87 rfl rfl ?_
      obtain ⟨r9, hr9, h⟩ := yb_bind h
      refine p_aald hr9 (sh_243 _ _) (by decide) rfl (rF_243 _ _) dX12_tells_88 ?_
      refine n_iload_n (i := 1) dX12_tells_89 rfl rfl ?_
      obtain ⟨r10, hr10, h⟩ := yb_bind h
      refine p_aald hr10 (shF_243 hr9 _ _) (by decide) rfl (rG_243 hr9 _ _) dX12_tells_90 ?_
      refine n_iconst (2 : Int32) dX12_tells_91 ic_2 ?_
      refine n_iload dX12_tells_92 rfl ?_
      refine n_imul dX12_tells_94 ?_
      obtain ⟨v11, hv11, h⟩ := yb_bind h
      refine p_iald hv11 (shG_243 hr9 hr10 _ _) dX12_tells_95 ?_
      refine n_istore (i := 5) (vs' := [some (.ref (yb_ad G 176)), some (.int x1), some (.int x2), some (.int x3), some (.int x4), some (.int v11), none]) dX12_tells_96 (Nat.le_of_ble_eq_true rfl) rfl rfl ?_
      refine n_aload_n (i := 0) dX12_tells_98 rfl rfl ?_
      refine p_getr fl_X12_125 (sh_176 _ _) rfl (rR_176_50 _ _) dX12_tells_99 ?_
      refine n_iload_n (i := 2) dX12_tells_102 rfl rfl ?_
      obtain ⟨r12, hr12, h⟩ := yb_bind h
      refine p_aald hr12 (sh_243 _ _) (by decide) rfl (rF_243 _ _) dX12_tells_103 ?_
      refine n_iload_n (i := 1) dX12_tells_104 rfl rfl ?_
      obtain ⟨r13, hr13, h⟩ := yb_bind h
      refine p_aald hr13 (shF_243 hr12 _ _) (by decide) rfl (rG_243 hr12 _ _) dX12_tells_105 ?_
      refine n_iconst (2 : Int32) dX12_tells_106 ic_2 ?_
      refine n_iload dX12_tells_107 rfl ?_
      refine n_imul dX12_tells_109 ?_
      refine n_iconst (1 : Int32) dX12_tells_110 ic_1 ?_
      refine n_iadd dX12_tells_111 ?_
      obtain ⟨v14, hv14, h⟩ := yb_bind h
      refine p_iald hv14 (shG_243 hr12 hr13 _ _) dX12_tells_112 ?_
      refine n_istore (i := 6) (vs' := [some (.ref (yb_ad G 176)), some (.int x1), some (.int x2), some (.int x3), some (.int x4), some (.int v11), some (.int v14)]) dX12_tells_113 (Nat.le_of_ble_eq_true rfl) rfl rfl ?_
      refine n_iload dX12_tells_115 rfl ?_
      refine n_bipush (110 : Int32) dX12_tells_117 bp_110 ?_
      refine n_icmp_eq 129 dX12_tells_119 (by decide) (fun c15 => ?_) (fun c15 => ?_)
      · have h := yb_ifp c15 h
        exact p_jump (tj_X12_tells_129 hrc70 h) (And.intro rfl (And.intro rfl (And.intro rfl (And.intro rfl (And.intro rfl (And.intro rfl (And.intro rfl trivial)))))))
      · have h := yb_ifn c15 h
        refine n_iload dX12_tells_122 rfl ?_
        refine n_bipush (118 : Int32) dX12_tells_124 bp_118 ?_
        refine n_icmp_ne 160 dX12_tells_126 (by decide) (fun c19 => ?_) (fun c19 => ?_)
        · have h := yb_ifn c19 h
          refine n_iload dX12_tells_160 rfl ?_
          refine n_bipush (33 : Int32) dX12_tells_162 bp_33 ?_
          refine n_icmp_ne 188 dX12_tells_164 (by decide) (fun c20 => ?_) (fun c20 => ?_)
          · have h := yb_ifn c20 h
            refine n_aload_n (i := 0) dX12_tells_188 rfl rfl ?_
            refine p_getr fl_X12_191 (sh_176 _ _) rfl (rR_176_60 _ _) dX12_tells_189 ?_
            refine n_iload_n (i := 3) dX12_tells_192 rfl rfl ?_
            refine n_iconst (2 : Int32) dX12_tells_193 ic_2 ?_
            refine n_isub dX12_tells_194 ?_
            refine n_iload dX12_tells_195 rfl ?_
            refine n_aload_n (i := 0) dX12_tells_197 rfl rfl ?_
            refine p_getr fl_X12_191 (sh_176 _ _) rfl (rR_176_60 _ _) dX12_tells_198 ?_
            refine n_iload_n (i := 3) dX12_tells_201 rfl rfl ?_
            refine n_iconst (2 : Int32) dX12_tells_202 ic_2 ?_
            refine n_isub dX12_tells_203 ?_
            obtain ⟨v21, hv21, h⟩ := yb_bind h
            refine p_iald hv21 (sh_338 _ _) dX12_tells_204 ?_
            refine n_aload_n (i := 0) dX12_tells_205 rfl rfl ?_
            refine p_getr fl_X12_191 (sh_176 _ _) rfl (rR_176_60 _ _) dX12_tells_206 ?_
            refine n_iload_n (i := 3) dX12_tells_209 rfl rfl ?_
            refine n_iconst (1 : Int32) dX12_tells_210 ic_1 ?_
            refine n_isub dX12_tells_211 ?_
            obtain ⟨v22, hv22, h⟩ := yb_bind h
            refine p_iald hv22 (sh_338 _ _) dX12_tells_212 ?_
            obtain ⟨q23, hq23, h⟩ := yb_bind h
            refine p_callSi (As := [.int v11, .int v21, .int v22]) (t_X12_done hq23) cs_X12_454 rfl rfl (Nat.le_of_ble_eq_true rfl) dX12_tells_213 (yb_rok (Nat.le_of_ble_eq_true rfl) (by decide)) ⟨rfl, rfl⟩ ⟨Nat.le_refl _, Nat.le_refl _⟩ (fun k24 => ?_)
            obtain ⟨s25, hs25, h⟩ := yb_bind h
            refine p_iast hs25 (sh_338 _ _) dX12_tells_216 ?_
            refine n_iinc (vs' := [some (.ref (yb_ad G 176)), some (.int x1), some (.int x2), some (.int (x3 + (-1 : Int32))), some (.int x4), some (.int v11), some (.int v14)]) dX12_tells_217 rfl (ii_m1 _) (Nat.le_of_ble_eq_true rfl) rfl rfl ?_
            exact p_jump (tj_X12_tells_220 hrc70 h) (And.intro rfl (And.intro rfl (And.intro rfl (And.intro rfl (And.intro rfl trivial)))))
          · have h := yb_ifp c20 h
            refine n_aload_n (i := 0) dX12_tells_167 rfl rfl ?_
            refine p_getr fl_X12_191 (sh_176 _ _) rfl (rR_176_60 _ _) dX12_tells_168 ?_
            refine n_iload_n (i := 3) dX12_tells_171 rfl rfl ?_
            refine n_iconst (1 : Int32) dX12_tells_172 ic_1 ?_
            refine n_isub dX12_tells_173 ?_
            refine n_iconst (1 : Int32) dX12_tells_174 ic_1 ?_
            refine n_aload_n (i := 0) dX12_tells_175 rfl rfl ?_
            refine p_getr fl_X12_191 (sh_176 _ _) rfl (rR_176_60 _ _) dX12_tells_176 ?_
            refine n_iload_n (i := 3) dX12_tells_179 rfl rfl ?_
            refine n_iconst (1 : Int32) dX12_tells_180 ic_1 ?_
            refine n_isub dX12_tells_181 ?_
            obtain ⟨v26, hv26, h⟩ := yb_bind h
            refine p_iald hv26 (sh_338 _ _) dX12_tells_182 ?_
            refine n_isub dX12_tells_183 ?_
            obtain ⟨s27, hs27, h⟩ := yb_bind h
            refine p_iast hs27 (sh_338 _ _) dX12_tells_184 ?_
            refine n_goto 220 dX12_tells_185 (by decide) ?_
            exact p_jump (tj_X12_tells_220 hrc70 h) (And.intro rfl (And.intro rfl (And.intro rfl (And.intro rfl (And.intro rfl trivial)))))
        · have h := yb_ifp c19 h
          exact p_jump (tj_X12_tells_129 hrc70 h) (And.intro rfl (And.intro rfl (And.intro rfl (And.intro rfl (And.intro rfl (And.intro rfl (And.intro rfl trivial)))))))
set_option maxHeartbeats 4000000 in
set_option maxRecDepth 20000 in
theorem tl_X12_tells_70 {G : yb_G} {X : List (FieldType × Nat)} {x1 : Int32} {x2 : Int32} {out : (Int32 × yb_S)} {x3 : Int32} {x4 : Int32} {s : yb_S} (h : l_X12_tells_70 x1 x2 yb_N x3 x4 s = some out) : Rn G RX12 cX12_tells 7 (Option.some .int) false (yb_rm 3) (yb_qi X out.2 out.1) 0 0 70 [some (.ref (yb_ad G 176)), some (.int x1), some (.int x2), some (.int x3), some (.int x4), none, none] [] (yb_mk s X) := t_l_X12_tells_70 _ _ _ _ h
set_option maxHeartbeats 4000000 in
set_option maxRecDepth 20000 in
theorem tj_X12_tells_38 {G : yb_G} {X : List (FieldType × Nat)} {x1 : Int32} {y0 : Int32} {s : yb_S} {out : (Int32 × yb_S)} (h : j_X12_tells_38 x1 y0 s = some out) : Rn G RX12 cX12_tells 7 (Option.some .int) false (yb_rm 3) (yb_qi X out.2 out.1) 0 0 38 [some (.ref (yb_ad G 176)), some (.int x1), none, none, none, none, none] [.int y0] (yb_mk s X) := by
  unfold j_X12_tells_38 at h
  refine n_istore_n (i := 2) (vs' := [some (.ref (yb_ad G 176)), some (.int x1), some (.int y0), none, none, none, none]) dX12_tells_38 rfl (Nat.le_of_ble_eq_true rfl) rfl rfl ?_
  refine n_iload_n (i := 2) dX12_tells_39 rfl rfl ?_
  refine n_iconst (-1 : Int32) dX12_tells_40 ic_m1 ?_
  refine n_icmp_ne 65 dX12_tells_41 (by decide) (fun c4 => ?_) (fun c4 => ?_)
  · have h := yb_ifn c4 h
    refine n_iconst (0 : Int32) dX12_tells_65 ic_0 ?_
    refine n_istore_n (i := 3) (vs' := [some (.ref (yb_ad G 176)), some (.int x1), some (.int y0), some (.int (0 : Int32)), none, none, none]) dX12_tells_66 rfl (Nat.le_of_ble_eq_true rfl) rfl rfl ?_
    refine n_iconst (0 : Int32) dX12_tells_67 ic_0 ?_
    refine n_istore (i := 4) (vs' := [some (.ref (yb_ad G 176)), some (.int x1), some (.int y0), some (.int (0 : Int32)), some (.int (0 : Int32)), none, none]) dX12_tells_68 (Nat.le_of_ble_eq_true rfl) rfl rfl ?_
    exact p_jump (tl_X12_tells_70 h) (And.intro rfl (And.intro rfl (And.intro rfl (And.intro rfl (And.intro rfl trivial)))))
  · have h := yb_ifp c4 h
    refine n_iload_n (i := 1) dX12_tells_44 rfl rfl ?_
    refine n_iconst (2 : Int32) dX12_tells_45 ic_2 ?_
    refine n_icmp_ne 54 dX12_tells_46 (by decide) (fun c28 => ?_) (fun c28 => ?_)
    · have h := yb_ifn c28 h
      refine n_iload_n (i := 1) dX12_tells_54 rfl rfl ?_
      refine n_iconst (4 : Int32) dX12_tells_55 ic_4 ?_
      refine n_icmp_ne 63 dX12_tells_56 (by decide) (fun c29 => ?_) (fun c29 => ?_)
      · have h := yb_ifn c29 h
        refine n_iconst (0 : Int32) dX12_tells_63 ic_0 ?_
        cases h
        exact n_iret dX12_tells_64 rfl rfl (Nat.le_refl _) (Nat.le_refl _) ⟨rfl, rfl⟩
      · have h := yb_ifp c29 h
        refine n_iconst (1 : Int32) dX12_tells_59 ic_1 ?_
        refine n_goto 64 dX12_tells_60 (by decide) ?_
        cases h
        exact n_iret dX12_tells_64 rfl rfl (Nat.le_refl _) (Nat.le_refl _) ⟨rfl, rfl⟩
    · have h := yb_ifp c28 h
      refine n_bipush (30 : Int32) dX12_tells_49 bp_30 ?_
      refine n_goto 64 dX12_tells_51 (by decide) ?_
      cases h
      exact n_iret dX12_tells_64 rfl rfl (Nat.le_refl _) (Nat.le_refl _) ⟨rfl, rfl⟩
set_option maxHeartbeats 4000000 in
set_option maxRecDepth 20000 in
theorem tj_X12_tells_29 {G : yb_G} {X : List (FieldType × Nat)} {x1 : Int32} {s : yb_S} {out : (Int32 × yb_S)} (h : j_X12_tells_29 x1 s = some out) : Rn G RX12 cX12_tells 7 (Option.some .int) false (yb_rm 3) (yb_qi X out.2 out.1) 0 0 29 [some (.ref (yb_ad G 176)), some (.int x1), none, none, none, none, none] [] (yb_mk s X) := by
  unfold j_X12_tells_29 at h
  refine n_aload_n (i := 0) dX12_tells_29 rfl rfl ?_
  refine n_iload_n (i := 1) dX12_tells_30 rfl rfl ?_
  refine n_aload_n (i := 0) dX12_tells_31 rfl rfl ?_
  refine p_geti fl_X12_275 (sh_176 _ _) rfl dX12_tells_32 ?_
  obtain ⟨q2, hq2, h⟩ := yb_bind h
  refine p_callVi (As := [.int x1, .int (s.1 176 7)]) (t_X12_sheetFor hq2) cv_X12_443 (sh_176 _ _) rfl rfl (Nat.le_of_ble_eq_true rfl) dX12_tells_35 (yb_rok (Nat.le_of_ble_eq_true rfl) (by decide)) ⟨rfl, rfl⟩ ⟨Nat.le_refl _, Nat.le_refl _⟩ (fun k3 => ?_)
  exact p_jump (tj_X12_tells_38 h) (And.intro rfl (And.intro rfl trivial))
set_option maxHeartbeats 4000000 in
set_option maxRecDepth 20000 in
theorem t_X12_tells {G : yb_G} {X : List (FieldType × Nat)} {a1 : Int32} {s : yb_S} {out : (Int32 × yb_S)} (h : f_X12_tells a1 s = some out) : Ct G yX12_tells cX12_tells 7 (Option.some .int) (yb_rm 3) [.ref (yb_ad G 176), .int a1] (yb_mk s X) (yb_qi X out.2 out.1) := by
  refine Ct.of (own := RX12) (ini := false) (vs := [some (.ref (yb_ad G 176)), some (.int a1), none, none, none, none, none]) ⟨rfl, by decide +kernel⟩ (fun h => by cases h) (Nat.le_of_ble_eq_true rfl) rfl ?_
  unfold f_X12_tells at h
  refine n_aload_n (i := 0) dX12_tells_0 rfl rfl ?_
  refine p_geti fl_X12_184 (sh_176 _ _) rfl dX12_tells_1 ?_
  refine n_iconst (-1 : Int32) dX12_tells_4 ic_m1 ?_
  refine n_icmp_eq 29 dX12_tells_5 (by decide) (fun c1 => ?_) (fun c1 => ?_)
  · have h := yb_ifp c1 h
    exact p_jump (tj_X12_tells_29 h) (And.intro rfl (And.intro rfl trivial))
  · have h := yb_ifn c1 h
    refine n_aload_n (i := 0) dX12_tells_8 rfl rfl ?_
    refine p_getr fl_X12_128 (sh_176 _ _) rfl (rR_176_51 _ _) dX12_tells_9 ?_
    refine n_aload_n (i := 0) dX12_tells_12 rfl rfl ?_
    refine p_geti fl_X12_184 (sh_176 _ _) rfl dX12_tells_13 ?_
    obtain ⟨r30, hr30, h⟩ := yb_bind h
    refine p_aald hr30 (sh_321 _ _) (by decide) rfl (rF_321 _ _) dX12_tells_16 ?_
    refine n_iload_n (i := 1) dX12_tells_17 rfl rfl ?_
    obtain ⟨v31, hv31, h⟩ := yb_bind h
    refine p_iald hv31 (shF_321 hr30 _ _) dX12_tells_18 ?_
    refine n_if_le 29 dX12_tells_19 (by decide) (fun c32 => ?_) (fun c32 => ?_)
    · have h := yb_ifp c32 h
      exact p_jump (tj_X12_tells_29 h) (And.intro rfl (And.intro rfl trivial))
    · have h := yb_ifn c32 h
      refine n_aload_n (i := 0) dX12_tells_22 rfl rfl ?_
      refine p_geti fl_X12_184 (sh_176 _ _) rfl dX12_tells_23 ?_
      refine n_goto 38 dX12_tells_26 (by decide) ?_
      exact p_jump (tj_X12_tells_38 h) (And.intro rfl (And.intro rfl trivial))
set_option maxHeartbeats 4000000 in
set_option maxRecDepth 20000 in
theorem t_X12_askedOf {G : yb_G} {X : List (FieldType × Nat)} {a1 : Int32} {a2 : Int32} {s : yb_S} {out : (Int32 × yb_S)} (h : f_X12_askedOf a1 a2 s = some out) : Ct G yX12_askedOf cX12_askedOf 3 (Option.some .int) (yb_rm 4) [.ref (yb_ad G 176), .int a1, .int a2] (yb_mk s X) (yb_qi X out.2 out.1) := by
  refine Ct.of (own := RX12) (ini := false) (vs := [some (.ref (yb_ad G 176)), some (.int a1), some (.int a2)]) ⟨rfl, by decide +kernel⟩ (fun h => by cases h) (Nat.le_of_ble_eq_true rfl) rfl ?_
  unfold f_X12_askedOf at h
  refine n_aload_n (i := 0) dX12_askedOf_0 rfl rfl ?_
  refine n_iload_n (i := 1) dX12_askedOf_1 rfl rfl ?_
  obtain ⟨q1, hq1, h⟩ := yb_bind h
  refine p_callVv (As := [.int a1]) (t_X12_asksOf hq1) cv_X12_467 (sh_176 _ _) rfl rfl (Nat.le_of_ble_eq_true rfl) dX12_askedOf_2 (yb_rok (Nat.le_of_ble_eq_true rfl) (by decide)) ⟨rfl, rfl⟩ ⟨Nat.le_refl _, Nat.le_refl _⟩ (fun k2 => ?_)
  refine n_aload_n (i := 0) dX12_askedOf_5 rfl rfl ?_
  refine n_iload_n (i := 2) dX12_askedOf_6 rfl rfl ?_
  obtain ⟨q3, hq3, h⟩ := yb_bind h
  refine p_callVi (As := [.int a2]) (t_X12_tells hq3) cv_X12_482 (sh_176 _ _) rfl rfl (Nat.le_of_ble_eq_true rfl) dX12_askedOf_7 (yb_rok (Nat.le_of_ble_eq_true rfl) (by decide)) ⟨rfl, rfl⟩ ⟨Nat.le_refl _, Nat.le_refl _⟩ (fun k4 => ?_)
  cases h
  exact n_iret dX12_askedOf_10 rfl rfl (Nat.le_refl _) (Nat.le_refl _) ⟨rfl, rfl⟩
set_option maxHeartbeats 4000000 in
set_option maxRecDepth 20000 in
theorem t_X12_isHoused {G : yb_G} {X : List (FieldType × Nat)} {a1 : Int32} {s : yb_S} {out : Int32} (h : f_X12_isHoused a1 s = some out) : Ct G yX12_isHoused cX12_isHoused 2 (Option.some .boolean) (yb_rm 1) [.ref (yb_ad G 176), .int a1] (yb_mk s X) (yb_qi X s out) := by
  refine Ct.of (own := RX12) (ini := false) (vs := [some (.ref (yb_ad G 176)), some (.int a1)]) ⟨rfl, by decide +kernel⟩ (fun h => by cases h) (Nat.le_of_ble_eq_true rfl) rfl ?_
  unfold f_X12_isHoused at h
  refine n_aload_n (i := 0) dX12_isHoused_0 rfl rfl ?_
  refine p_getr fl_X12_66 (sh_176 _ _) rfl (rR_176_22 _ _) dX12_isHoused_1 ?_
  refine n_iload_n (i := 1) dX12_isHoused_4 rfl rfl ?_
  obtain ⟨v1, hv1, h⟩ := yb_bind h
  refine p_iald hv1 (sh_195 _ _) dX12_isHoused_5 ?_
  refine n_iconst (1 : Int32) dX12_isHoused_6 ic_1 ?_
  refine n_icmp_ne 14 dX12_isHoused_7 (by decide) (fun c2 => ?_) (fun c2 => ?_)
  · have h := yb_ifn c2 h
    refine n_iconst (0 : Int32) dX12_isHoused_14 ic_0 ?_
    cases h
    exact n_iret dX12_isHoused_15 rfl (by decide) (Nat.le_refl _) (Nat.le_refl _) ⟨rfl, rfl⟩
  · have h := yb_ifp c2 h
    refine n_iconst (1 : Int32) dX12_isHoused_10 ic_1 ?_
    refine n_goto 15 dX12_isHoused_11 (by decide) ?_
    cases h
    exact n_iret dX12_isHoused_15 rfl (by decide) (Nat.le_refl _) (Nat.le_refl _) ⟨rfl, rfl⟩
set_option maxHeartbeats 4000000 in
set_option maxRecDepth 20000 in
theorem t_X12_townFor {G : yb_G} {X : List (FieldType × Nat)} {a1 : Int32} {s : yb_S} {out : Int32} (h : f_X12_townFor a1 s = some out) : Ct G yX12_townFor cX12_townFor 2 (Option.some .int) (yb_rm 2) [.ref (yb_ad G 176), .int a1] (yb_mk s X) (yb_qi X s out) := by
  refine Ct.of (own := RX12) (ini := false) (vs := [some (.ref (yb_ad G 176)), some (.int a1)]) ⟨rfl, by decide +kernel⟩ (fun h => by cases h) (Nat.le_of_ble_eq_true rfl) rfl ?_
  unfold f_X12_townFor at h
  refine n_aload_n (i := 0) dX12_townFor_0 rfl rfl ?_
  refine n_iload_n (i := 1) dX12_townFor_1 rfl rfl ?_
  obtain ⟨q1, hq1, h⟩ := yb_bind h
  refine p_callVi (As := [.int a1]) (t_X12_isHoused hq1) cv_X12_287 (sh_176 _ _) rfl rfl (Nat.le_of_ble_eq_true rfl) dX12_townFor_2 (yb_rok (Nat.le_of_ble_eq_true rfl) (by decide)) ⟨rfl, rfl⟩ ⟨Nat.le_refl _, Nat.le_refl _⟩ (fun k2 => ?_)
  refine n_if_eq 22 dX12_townFor_5 (by decide) (fun c3 => ?_) (fun c3 => ?_)
  · have h := yb_ifp c3 h
    refine n_iconst (-1 : Int32) dX12_townFor_22 ic_m1 ?_
    cases h
    exact n_iret dX12_townFor_23 rfl rfl (Nat.le_refl _) (Nat.le_refl _) ⟨rfl, rfl⟩
  · have h := yb_ifn c3 h
    refine n_aload_n (i := 0) dX12_townFor_8 rfl rfl ?_
    refine p_getr fl_X12_30 (sh_176 _ _) rfl (rR_176_9 _ _) dX12_townFor_9 ?_
    refine n_aload_n (i := 0) dX12_townFor_12 rfl rfl ?_
    refine p_getr fl_X12_69 (sh_176 _ _) rfl (rR_176_23 _ _) dX12_townFor_13 ?_
    refine n_iload_n (i := 1) dX12_townFor_16 rfl rfl ?_
    obtain ⟨v4, hv4, h⟩ := yb_bind h
    refine p_iald hv4 (sh_196 _ _) dX12_townFor_17 ?_
    obtain ⟨v5, hv5, h⟩ := yb_bind h
    refine p_iald hv5 (sh_183 _ _) dX12_townFor_18 ?_
    refine n_goto 23 dX12_townFor_19 (by decide) ?_
    cases h
    exact n_iret dX12_townFor_23 rfl rfl (Nat.le_refl _) (Nat.le_refl _) ⟨rfl, rfl⟩
set_option maxHeartbeats 4000000 in
set_option maxRecDepth 20000 in
theorem tj_X12_kinIn_46 {G : yb_G} {X : List (FieldType × Nat)} {rc5 : (Int32 → Int32 → yb_S → Option (Int32 × yb_S))} {x1 : Int32} {x2 : Int32} {x4 : Int32} {y0 : Int32} {y1 : Int32} {s : yb_S} {out : (Int32 × yb_S)} (hrc5 : ∀ (x3' : Int32) (x4' : Int32) (s' : yb_S), rc5 x3' x4' s' = some out → Rn G RX12 cX12_kinIn 5 (Option.some .int) false (yb_rm 6) (yb_qi X out.2 out.1) 0 0 5 [some (.ref (yb_ad G 176)), some (.int x1), some (.int x2), some (.int x3'), some (.int x4')] [] (yb_mk s' X)) (h : j_X12_kinIn_46 rc5 x1 x2 x4 y0 y1 s = some out) : Rn G RX12 cX12_kinIn 5 (Option.some .int) false (yb_rm 6) (yb_qi X out.2 out.1) 0 0 46 [some (.ref (yb_ad G 176)), some (.int x1), some (.int x2), none, some (.int x4)] [.int y0, .int y1] (yb_mk s X) := by
  unfold j_X12_kinIn_46 at h
  refine n_iadd dX12_kinIn_46 ?_
  refine n_istore_n (i := 3) (vs' := [some (.ref (yb_ad G 176)), some (.int x1), some (.int x2), some (.int (y1 + y0)), some (.int x4)]) dX12_kinIn_47 rfl (Nat.le_of_ble_eq_true rfl) rfl rfl ?_
  refine n_iinc (vs' := [some (.ref (yb_ad G 176)), some (.int x1), some (.int x2), some (.int (y1 + y0)), some (.int (x4 + (1 : Int32)))]) dX12_kinIn_48 rfl (ii_1 _) (Nat.le_of_ble_eq_true rfl) rfl rfl ?_
  refine n_goto 5 dX12_kinIn_51 (by decide) ?_
  exact p_jump (hrc5 (y1 + y0) (x4 + (1 : Int32)) s h) (And.intro rfl (And.intro rfl (And.intro rfl (And.intro rfl (And.intro rfl trivial)))))
set_option maxHeartbeats 4000000 in
set_option maxRecDepth 20000 in
theorem tj_X12_kinIn_45 {G : yb_G} {X : List (FieldType × Nat)} {rc5 : (Int32 → Int32 → yb_S → Option (Int32 × yb_S))} {x1 : Int32} {x2 : Int32} {x4 : Int32} {y0 : Int32} {s : yb_S} {out : (Int32 × yb_S)} (hrc5 : ∀ (x3' : Int32) (x4' : Int32) (s' : yb_S), rc5 x3' x4' s' = some out → Rn G RX12 cX12_kinIn 5 (Option.some .int) false (yb_rm 6) (yb_qi X out.2 out.1) 0 0 5 [some (.ref (yb_ad G 176)), some (.int x1), some (.int x2), some (.int x3'), some (.int x4')] [] (yb_mk s' X)) (h : j_X12_kinIn_45 rc5 x1 x2 x4 y0 s = some out) : Rn G RX12 cX12_kinIn 5 (Option.some .int) false (yb_rm 6) (yb_qi X out.2 out.1) 0 0 45 [some (.ref (yb_ad G 176)), some (.int x1), some (.int x2), none, some (.int x4)] [.int y0] (yb_mk s X) := by
  unfold j_X12_kinIn_45 at h
  refine n_iconst (0 : Int32) dX12_kinIn_45 ic_0 ?_
  exact p_jump (tj_X12_kinIn_46 hrc5 h) (And.intro rfl (And.intro rfl (And.intro rfl (And.intro rfl trivial))))
set_option maxHeartbeats 4000000 in
set_option maxRecDepth 20000 in
theorem t_l_X12_kinIn_5 {G : yb_G} {X : List (FieldType × Nat)} {x1 : Int32} {x2 : Int32} {out : (Int32 × yb_S)} : ∀ (k0 : Nat) (x3 : Int32) (x4 : Int32) (s : yb_S), l_X12_kinIn_5 x1 x2 k0 x3 x4 s = some out → Rn G RX12 cX12_kinIn 5 (Option.some .int) false (yb_rm 6) (yb_qi X out.2 out.1) 0 0 5 [some (.ref (yb_ad G 176)), some (.int x1), some (.int x2), some (.int x3), some (.int x4)] [] (yb_mk s X) := by
  intro k0
  induction k0 with
  | zero => intro x3 x4 s h; cases h
  | succ k0 ih =>
    intro x3 x4 s h
    have h : f_X12_kinIn_5 (fun x3 x4 s => l_X12_kinIn_5 x1 x2 k0 x3 x4 s) x1 x2 x3 x4 s = some out := h
    have hrc5 := ih
    unfold f_X12_kinIn_5 at h
    refine n_iload dX12_kinIn_5 rfl ?_
    refine n_aload_n (i := 0) dX12_kinIn_7 rfl rfl ?_
    refine p_geti fl_X12_254 (sh_176 _ _) rfl dX12_kinIn_8 ?_
    refine n_icmp_ge 54 dX12_kinIn_11 (by decide) (fun c1 => ?_) (fun c1 => ?_)
    · have h := yb_ifp c1 h
      refine n_iload_n (i := 3) dX12_kinIn_54 rfl rfl ?_
      cases h
      exact n_iret dX12_kinIn_55 rfl rfl (Nat.le_refl _) (Nat.le_refl _) ⟨rfl, rfl⟩
    · have h := yb_ifn c1 h
      refine n_iload_n (i := 3) dX12_kinIn_14 rfl rfl ?_
      refine n_iload dX12_kinIn_15 rfl ?_
      refine n_iload_n (i := 1) dX12_kinIn_17 rfl rfl ?_
      refine n_icmp_eq 45 dX12_kinIn_18 (by decide) (fun c2 => ?_) (fun c2 => ?_)
      · have h := yb_ifp c2 h
        exact p_jump (tj_X12_kinIn_45 hrc5 h) (And.intro rfl (And.intro rfl (And.intro rfl (And.intro rfl trivial))))
      · have h := yb_ifn c2 h
        refine n_aload_n (i := 0) dX12_kinIn_21 rfl rfl ?_
        refine n_iload dX12_kinIn_22 rfl ?_
        obtain ⟨q3, hq3, h⟩ := yb_bind h
        refine p_callVi (As := [.int x4]) (t_X12_townFor hq3) cv_X12_458 (sh_176 _ _) rfl rfl (Nat.le_of_ble_eq_true rfl) dX12_kinIn_24 (yb_rok (Nat.le_of_ble_eq_true rfl) (by decide)) ⟨rfl, rfl⟩ ⟨Nat.le_refl _, Nat.le_refl _⟩ (fun k4 => ?_)
        refine n_iload_n (i := 2) dX12_kinIn_27 rfl rfl ?_
        refine n_icmp_ne 45 dX12_kinIn_28 (by decide) (fun c5 => ?_) (fun c5 => ?_)
        · have h := yb_ifn c5 h
          exact p_jump (tj_X12_kinIn_45 hrc5 h) (And.intro rfl (And.intro rfl (And.intro rfl (And.intro rfl trivial))))
        · have h := yb_ifp c5 h
          refine n_aload_n (i := 0) dX12_kinIn_31 rfl rfl ?_
          refine n_iload_n (i := 1) dX12_kinIn_32 rfl rfl ?_
          refine n_iload dX12_kinIn_33 rfl ?_
          obtain ⟨q6, hq6, h⟩ := yb_bind h
          refine p_callVi (As := [.int x1, .int x4]) (t_X12_areKin hq6) cv_X12_340 (sh_176 _ _) rfl rfl (Nat.le_of_ble_eq_true rfl) dX12_kinIn_35 (yb_rok (Nat.le_of_ble_eq_true rfl) (by decide)) ⟨rfl, rfl⟩ ⟨Nat.le_refl _, Nat.le_refl _⟩ (fun k7 => ?_)
          refine n_if_eq 45 dX12_kinIn_38 (by decide) (fun c8 => ?_) (fun c8 => ?_)
          · have h := yb_ifp c8 h
            exact p_jump (tj_X12_kinIn_45 hrc5 h) (And.intro rfl (And.intro rfl (And.intro rfl (And.intro rfl trivial))))
          · have h := yb_ifn c8 h
            refine n_iconst (1 : Int32) dX12_kinIn_41 ic_1 ?_
            refine n_goto 46 dX12_kinIn_42 (by decide) ?_
            exact p_jump (tj_X12_kinIn_46 hrc5 h) (And.intro rfl (And.intro rfl (And.intro rfl (And.intro rfl trivial))))
set_option maxHeartbeats 4000000 in
set_option maxRecDepth 20000 in
theorem tl_X12_kinIn_5 {G : yb_G} {X : List (FieldType × Nat)} {x1 : Int32} {x2 : Int32} {out : (Int32 × yb_S)} {x3 : Int32} {x4 : Int32} {s : yb_S} (h : l_X12_kinIn_5 x1 x2 yb_N x3 x4 s = some out) : Rn G RX12 cX12_kinIn 5 (Option.some .int) false (yb_rm 6) (yb_qi X out.2 out.1) 0 0 5 [some (.ref (yb_ad G 176)), some (.int x1), some (.int x2), some (.int x3), some (.int x4)] [] (yb_mk s X) := t_l_X12_kinIn_5 _ _ _ _ h
set_option maxHeartbeats 4000000 in
set_option maxRecDepth 20000 in
theorem t_X12_kinIn {G : yb_G} {X : List (FieldType × Nat)} {a1 : Int32} {a2 : Int32} {s : yb_S} {out : (Int32 × yb_S)} (h : f_X12_kinIn a1 a2 s = some out) : Ct G yX12_kinIn cX12_kinIn 5 (Option.some .int) (yb_rm 6) [.ref (yb_ad G 176), .int a1, .int a2] (yb_mk s X) (yb_qi X out.2 out.1) := by
  refine Ct.of (own := RX12) (ini := false) (vs := [some (.ref (yb_ad G 176)), some (.int a1), some (.int a2), none, none]) ⟨rfl, by decide +kernel⟩ (fun h => by cases h) (Nat.le_of_ble_eq_true rfl) rfl ?_
  unfold f_X12_kinIn at h
  refine n_iconst (0 : Int32) dX12_kinIn_0 ic_0 ?_
  refine n_istore_n (i := 3) (vs' := [some (.ref (yb_ad G 176)), some (.int a1), some (.int a2), some (.int (0 : Int32)), none]) dX12_kinIn_1 rfl (Nat.le_of_ble_eq_true rfl) rfl rfl ?_
  refine n_iconst (0 : Int32) dX12_kinIn_2 ic_0 ?_
  refine n_istore (i := 4) (vs' := [some (.ref (yb_ad G 176)), some (.int a1), some (.int a2), some (.int (0 : Int32)), some (.int (0 : Int32))]) dX12_kinIn_3 (Nat.le_of_ble_eq_true rfl) rfl rfl ?_
  exact p_jump (tl_X12_kinIn_5 h) (And.intro rfl (And.intro rfl (And.intro rfl (And.intro rfl (And.intro rfl trivial)))))
set_option maxHeartbeats 4000000 in
set_option maxRecDepth 20000 in
theorem tj_X12_pupilsIn_42 {G : yb_G} {X : List (FieldType × Nat)} {rc5 : (Int32 → Int32 → Option Int32)} {x1 : Int32} {x2 : Int32} {x4 : Int32} {y0 : Int32} {y1 : Int32} {s : yb_S} {out : Int32} (hrc5 : ∀ (x3' : Int32) (x4' : Int32), rc5 x3' x4' = some out → Rn G RX12 cX12_pupilsIn 5 (Option.some .int) false (yb_rm 3) (yb_qi X s out) 0 0 5 [some (.ref (yb_ad G 176)), some (.int x1), some (.int x2), some (.int x3'), some (.int x4')] [] (yb_mk s X)) (h : j_X12_pupilsIn_42 rc5 x1 x2 x4 y0 y1 s = some out) : Rn G RX12 cX12_pupilsIn 5 (Option.some .int) false (yb_rm 3) (yb_qi X s out) 0 0 42 [some (.ref (yb_ad G 176)), some (.int x1), some (.int x2), none, some (.int x4)] [.int y0, .int y1] (yb_mk s X) := by
  unfold j_X12_pupilsIn_42 at h
  refine n_iadd dX12_pupilsIn_42 ?_
  refine n_istore_n (i := 3) (vs' := [some (.ref (yb_ad G 176)), some (.int x1), some (.int x2), some (.int (y1 + y0)), some (.int x4)]) dX12_pupilsIn_43 rfl (Nat.le_of_ble_eq_true rfl) rfl rfl ?_
  refine n_iinc (vs' := [some (.ref (yb_ad G 176)), some (.int x1), some (.int x2), some (.int (y1 + y0)), some (.int (x4 + (1 : Int32)))]) dX12_pupilsIn_44 rfl (ii_1 _) (Nat.le_of_ble_eq_true rfl) rfl rfl ?_
  refine n_goto 5 dX12_pupilsIn_47 (by decide) ?_
  exact p_jump (hrc5 (y1 + y0) (x4 + (1 : Int32)) h) (And.intro rfl (And.intro rfl (And.intro rfl (And.intro rfl (And.intro rfl trivial)))))
set_option maxHeartbeats 4000000 in
set_option maxRecDepth 20000 in
theorem tj_X12_pupilsIn_41 {G : yb_G} {X : List (FieldType × Nat)} {rc5 : (Int32 → Int32 → Option Int32)} {x1 : Int32} {x2 : Int32} {x4 : Int32} {y0 : Int32} {s : yb_S} {out : Int32} (hrc5 : ∀ (x3' : Int32) (x4' : Int32), rc5 x3' x4' = some out → Rn G RX12 cX12_pupilsIn 5 (Option.some .int) false (yb_rm 3) (yb_qi X s out) 0 0 5 [some (.ref (yb_ad G 176)), some (.int x1), some (.int x2), some (.int x3'), some (.int x4')] [] (yb_mk s X)) (h : j_X12_pupilsIn_41 rc5 x1 x2 x4 y0 s = some out) : Rn G RX12 cX12_pupilsIn 5 (Option.some .int) false (yb_rm 3) (yb_qi X s out) 0 0 41 [some (.ref (yb_ad G 176)), some (.int x1), some (.int x2), none, some (.int x4)] [.int y0] (yb_mk s X) := by
  unfold j_X12_pupilsIn_41 at h
  refine n_iconst (0 : Int32) dX12_pupilsIn_41 ic_0 ?_
  exact p_jump (tj_X12_pupilsIn_42 hrc5 h) (And.intro rfl (And.intro rfl (And.intro rfl (And.intro rfl trivial))))
set_option maxHeartbeats 4000000 in
set_option maxRecDepth 20000 in
theorem t_l_X12_pupilsIn_5 {G : yb_G} {X : List (FieldType × Nat)} {x1 : Int32} {x2 : Int32} {s : yb_S} {out : Int32} : ∀ (k0 : Nat) (x3 : Int32) (x4 : Int32), l_X12_pupilsIn_5 x1 x2 s k0 x3 x4 = some out → Rn G RX12 cX12_pupilsIn 5 (Option.some .int) false (yb_rm 3) (yb_qi X s out) 0 0 5 [some (.ref (yb_ad G 176)), some (.int x1), some (.int x2), some (.int x3), some (.int x4)] [] (yb_mk s X) := by
  intro k0
  induction k0 with
  | zero => intro x3 x4 h; cases h
  | succ k0 ih =>
    intro x3 x4 h
    have h : f_X12_pupilsIn_5 (fun x3 x4 => l_X12_pupilsIn_5 x1 x2 s k0 x3 x4) x1 x2 s x3 x4 = some out := h
    have hrc5 := ih
    unfold f_X12_pupilsIn_5 at h
    refine n_iload dX12_pupilsIn_5 rfl ?_
    refine n_aload_n (i := 0) dX12_pupilsIn_7 rfl rfl ?_
    refine p_geti fl_X12_254 (sh_176 _ _) rfl dX12_pupilsIn_8 ?_
    refine n_icmp_ge 50 dX12_pupilsIn_11 (by decide) (fun c1 => ?_) (fun c1 => ?_)
    · have h := yb_ifp c1 h
      refine n_iload_n (i := 3) dX12_pupilsIn_50 rfl rfl ?_
      cases h
      exact n_iret dX12_pupilsIn_51 rfl rfl (Nat.le_refl _) (Nat.le_refl _) ⟨rfl, rfl⟩
    · have h := yb_ifn c1 h
      refine n_iload_n (i := 3) dX12_pupilsIn_14 rfl rfl ?_
      refine n_iload dX12_pupilsIn_15 rfl ?_
      refine n_iload_n (i := 2) dX12_pupilsIn_17 rfl rfl ?_
      refine n_icmp_eq 41 dX12_pupilsIn_18 (by decide) (fun c2 => ?_) (fun c2 => ?_)
      · have h := yb_ifp c2 h
        exact p_jump (tj_X12_pupilsIn_41 hrc5 h) (And.intro rfl (And.intro rfl (And.intro rfl (And.intro rfl trivial))))
      · have h := yb_ifn c2 h
        refine n_aload_n (i := 0) dX12_pupilsIn_21 rfl rfl ?_
        refine n_iload dX12_pupilsIn_22 rfl ?_
        obtain ⟨q3, hq3, h⟩ := yb_bind h
        refine p_callVi (As := [.int x4]) (t_X12_townFor hq3) cv_X12_458 (sh_176 _ _) rfl rfl (Nat.le_of_ble_eq_true rfl) dX12_pupilsIn_24 (yb_rok (Nat.le_of_ble_eq_true rfl) (by decide)) ⟨rfl, rfl⟩ ⟨Nat.le_refl _, Nat.le_refl _⟩ (fun k4 => ?_)
        refine n_iload_n (i := 1) dX12_pupilsIn_27 rfl rfl ?_
        refine n_icmp_ne 41 dX12_pupilsIn_28 (by decide) (fun c5 => ?_) (fun c5 => ?_)
        · have h := yb_ifn c5 h
          exact p_jump (tj_X12_pupilsIn_41 hrc5 h) (And.intro rfl (And.intro rfl (And.intro rfl (And.intro rfl trivial))))
        · have h := yb_ifp c5 h
          refine n_aload_n (i := 0) dX12_pupilsIn_31 rfl rfl ?_
          refine p_getr fl_X12_51 (sh_176 _ _) rfl (rR_176_17 _ _) dX12_pupilsIn_32 ?_
          refine n_iload dX12_pupilsIn_35 rfl ?_
          obtain ⟨v6, hv6, h⟩ := yb_bind h
          refine p_iald hv6 (sh_190 _ _) dX12_pupilsIn_37 ?_
          refine n_goto 42 dX12_pupilsIn_38 (by decide) ?_
          exact p_jump (tj_X12_pupilsIn_42 hrc5 h) (And.intro rfl (And.intro rfl (And.intro rfl (And.intro rfl trivial))))
set_option maxHeartbeats 4000000 in
set_option maxRecDepth 20000 in
theorem tl_X12_pupilsIn_5 {G : yb_G} {X : List (FieldType × Nat)} {x1 : Int32} {x2 : Int32} {s : yb_S} {out : Int32} {x3 : Int32} {x4 : Int32} (h : l_X12_pupilsIn_5 x1 x2 s yb_N x3 x4 = some out) : Rn G RX12 cX12_pupilsIn 5 (Option.some .int) false (yb_rm 3) (yb_qi X s out) 0 0 5 [some (.ref (yb_ad G 176)), some (.int x1), some (.int x2), some (.int x3), some (.int x4)] [] (yb_mk s X) := t_l_X12_pupilsIn_5 _ _ _ h
set_option maxHeartbeats 4000000 in
set_option maxRecDepth 20000 in
theorem t_X12_pupilsIn {G : yb_G} {X : List (FieldType × Nat)} {a1 : Int32} {a2 : Int32} {s : yb_S} {out : Int32} (h : f_X12_pupilsIn a1 a2 s = some out) : Ct G yX12_pupilsIn cX12_pupilsIn 5 (Option.some .int) (yb_rm 3) [.ref (yb_ad G 176), .int a1, .int a2] (yb_mk s X) (yb_qi X s out) := by
  refine Ct.of (own := RX12) (ini := false) (vs := [some (.ref (yb_ad G 176)), some (.int a1), some (.int a2), none, none]) ⟨rfl, by decide +kernel⟩ (fun h => by cases h) (Nat.le_of_ble_eq_true rfl) rfl ?_
  unfold f_X12_pupilsIn at h
  refine n_iconst (0 : Int32) dX12_pupilsIn_0 ic_0 ?_
  refine n_istore_n (i := 3) (vs' := [some (.ref (yb_ad G 176)), some (.int a1), some (.int a2), some (.int (0 : Int32)), none]) dX12_pupilsIn_1 rfl (Nat.le_of_ble_eq_true rfl) rfl rfl ?_
  refine n_iconst (0 : Int32) dX12_pupilsIn_2 ic_0 ?_
  refine n_istore (i := 4) (vs' := [some (.ref (yb_ad G 176)), some (.int a1), some (.int a2), some (.int (0 : Int32)), some (.int (0 : Int32))]) dX12_pupilsIn_3 (Nat.le_of_ble_eq_true rfl) rfl rfl ?_
  exact p_jump (tl_X12_pupilsIn_5 h) (And.intro rfl (And.intro rfl (And.intro rfl (And.intro rfl (And.intro rfl trivial)))))
set_option maxHeartbeats 4000000 in
set_option maxRecDepth 20000 in
theorem t_X12_wants {G : yb_G} {X : List (FieldType × Nat)} {a1 : Int32} {a2 : Int32} {s : yb_S} {out : Int32} (h : f_X12_wants a1 a2 s = some out) : Ct G yX12_wants cX12_wants 3 (Option.some .boolean) (yb_rm 1) [.ref (yb_ad G 176), .int a1, .int a2] (yb_mk s X) (yb_qi X s out) := by
  refine Ct.of (own := RX12) (ini := false) (vs := [some (.ref (yb_ad G 176)), some (.int a1), some (.int a2)]) ⟨rfl, by decide +kernel⟩ (fun h => by cases h) (Nat.le_of_ble_eq_true rfl) rfl ?_
  unfold f_X12_wants at h
  refine n_aload_n (i := 0) dX12_wants_0 rfl rfl ?_
  refine p_getr fl_X12_19 (sh_176 _ _) rfl (rR_176_3 _ _) dX12_wants_1 ?_
  refine n_iload_n (i := 1) dX12_wants_4 rfl rfl ?_
  obtain ⟨v1, hv1, h⟩ := yb_bind h
  refine p_iald hv1 (sh_180 _ _) dX12_wants_5 ?_
  refine n_aload_n (i := 0) dX12_wants_6 rfl rfl ?_
  refine p_getr fl_X12_60 (sh_176 _ _) rfl (rR_176_20 _ _) dX12_wants_7 ?_
  refine n_iload_n (i := 2) dX12_wants_10 rfl rfl ?_
  obtain ⟨v2, hv2, h⟩ := yb_bind h
  refine p_iald hv2 (sh_193 _ _) dX12_wants_11 ?_
  refine n_ishr dX12_wants_12 ?_
  refine n_iconst (1 : Int32) dX12_wants_13 ic_1 ?_
  refine n_iand dX12_wants_14 ?_
  refine n_iconst (1 : Int32) dX12_wants_15 ic_1 ?_
  refine n_icmp_ne 23 dX12_wants_16 (by decide) (fun c3 => ?_) (fun c3 => ?_)
  · have h := yb_ifn c3 h
    refine n_iconst (0 : Int32) dX12_wants_23 ic_0 ?_
    cases h
    exact n_iret dX12_wants_24 rfl (by decide) (Nat.le_refl _) (Nat.le_refl _) ⟨rfl, rfl⟩
  · have h := yb_ifp c3 h
    refine n_iconst (1 : Int32) dX12_wants_19 ic_1 ?_
    refine n_goto 24 dX12_wants_20 (by decide) ?_
    cases h
    exact n_iret dX12_wants_24 rfl (by decide) (Nat.le_refl _) (Nat.le_refl _) ⟨rfl, rfl⟩
set_option maxHeartbeats 4000000 in
set_option maxRecDepth 20000 in
theorem tj_X12_roomsIn_33 {G : yb_G} {X : List (FieldType × Nat)} {rc4 : (Int32 → Int32 → Option Int32)} {x1 : Int32} {x3 : Int32} {y0 : Int32} {y1 : Int32} {s : yb_S} {out : Int32} (hrc4 : ∀ (x2' : Int32) (x3' : Int32), rc4 x2' x3' = some out → Rn G RX12 cX12_roomsIn 4 (Option.some .int) false (yb_rm 1) (yb_qi X s out) 0 0 4 [some (.ref (yb_ad G 176)), some (.int x1), some (.int x2'), some (.int x3')] [] (yb_mk s X)) (h : j_X12_roomsIn_33 rc4 x1 x3 y0 y1 s = some out) : Rn G RX12 cX12_roomsIn 4 (Option.some .int) false (yb_rm 1) (yb_qi X s out) 0 0 33 [some (.ref (yb_ad G 176)), some (.int x1), none, some (.int x3)] [.int y0, .int y1] (yb_mk s X) := by
  unfold j_X12_roomsIn_33 at h
  refine n_iadd dX12_roomsIn_33 ?_
  refine n_istore_n (i := 2) (vs' := [some (.ref (yb_ad G 176)), some (.int x1), some (.int (y1 + y0)), some (.int x3)]) dX12_roomsIn_34 rfl (Nat.le_of_ble_eq_true rfl) rfl rfl ?_
  refine n_iinc (vs' := [some (.ref (yb_ad G 176)), some (.int x1), some (.int (y1 + y0)), some (.int (x3 + (1 : Int32)))]) dX12_roomsIn_35 rfl (ii_1 _) (Nat.le_of_ble_eq_true rfl) rfl rfl ?_
  refine n_goto 4 dX12_roomsIn_38 (by decide) ?_
  exact p_jump (hrc4 (y1 + y0) (x3 + (1 : Int32)) h) (And.intro rfl (And.intro rfl (And.intro rfl (And.intro rfl trivial))))
set_option maxHeartbeats 4000000 in
set_option maxRecDepth 20000 in
theorem t_l_X12_roomsIn_4 {G : yb_G} {X : List (FieldType × Nat)} {x1 : Int32} {s : yb_S} {out : Int32} : ∀ (k0 : Nat) (x2 : Int32) (x3 : Int32), l_X12_roomsIn_4 x1 s k0 x2 x3 = some out → Rn G RX12 cX12_roomsIn 4 (Option.some .int) false (yb_rm 1) (yb_qi X s out) 0 0 4 [some (.ref (yb_ad G 176)), some (.int x1), some (.int x2), some (.int x3)] [] (yb_mk s X) := by
  intro k0
  induction k0 with
  | zero => intro x2 x3 h; cases h
  | succ k0 ih =>
    intro x2 x3 h
    have h : f_X12_roomsIn_4 (fun x2 x3 => l_X12_roomsIn_4 x1 s k0 x2 x3) x1 s x2 x3 = some out := h
    have hrc4 := ih
    unfold f_X12_roomsIn_4 at h
    refine n_iload_n (i := 3) dX12_roomsIn_4 rfl rfl ?_
    refine n_aload_n (i := 0) dX12_roomsIn_5 rfl rfl ?_
    refine p_geti fl_X12_251 (sh_176 _ _) rfl dX12_roomsIn_6 ?_
    refine n_icmp_ge 41 dX12_roomsIn_9 (by decide) (fun c1 => ?_) (fun c1 => ?_)
    · have h := yb_ifp c1 h
      refine n_iload_n (i := 2) dX12_roomsIn_41 rfl rfl ?_
      cases h
      exact n_iret dX12_roomsIn_42 rfl rfl (Nat.le_refl _) (Nat.le_refl _) ⟨rfl, rfl⟩
    · have h := yb_ifn c1 h
      refine n_iload_n (i := 2) dX12_roomsIn_12 rfl rfl ?_
      refine n_aload_n (i := 0) dX12_roomsIn_13 rfl rfl ?_
      refine p_getr fl_X12_30 (sh_176 _ _) rfl (rR_176_9 _ _) dX12_roomsIn_14 ?_
      refine n_iload_n (i := 3) dX12_roomsIn_17 rfl rfl ?_
      obtain ⟨v2, hv2, h⟩ := yb_bind h
      refine p_iald hv2 (sh_183 _ _) dX12_roomsIn_18 ?_
      refine n_iload_n (i := 1) dX12_roomsIn_19 rfl rfl ?_
      refine n_icmp_ne 32 dX12_roomsIn_20 (by decide) (fun c3 => ?_) (fun c3 => ?_)
      · have h := yb_ifn c3 h
        refine n_iconst (0 : Int32) dX12_roomsIn_32 ic_0 ?_
        exact p_jump (tj_X12_roomsIn_33 hrc4 h) (And.intro rfl (And.intro rfl (And.intro rfl trivial)))
      · have h := yb_ifp c3 h
        refine n_aload_n (i := 0) dX12_roomsIn_23 rfl rfl ?_
        refine p_getr fl_X12_33 (sh_176 _ _) rfl (rR_176_10 _ _) dX12_roomsIn_24 ?_
        refine n_iload_n (i := 3) dX12_roomsIn_27 rfl rfl ?_
        obtain ⟨v4, hv4, h⟩ := yb_bind h
        refine p_iald hv4 (sh_184 _ _) dX12_roomsIn_28 ?_
        refine n_goto 33 dX12_roomsIn_29 (by decide) ?_
        exact p_jump (tj_X12_roomsIn_33 hrc4 h) (And.intro rfl (And.intro rfl (And.intro rfl trivial)))
set_option maxHeartbeats 4000000 in
set_option maxRecDepth 20000 in
theorem tl_X12_roomsIn_4 {G : yb_G} {X : List (FieldType × Nat)} {x1 : Int32} {s : yb_S} {out : Int32} {x2 : Int32} {x3 : Int32} (h : l_X12_roomsIn_4 x1 s yb_N x2 x3 = some out) : Rn G RX12 cX12_roomsIn 4 (Option.some .int) false (yb_rm 1) (yb_qi X s out) 0 0 4 [some (.ref (yb_ad G 176)), some (.int x1), some (.int x2), some (.int x3)] [] (yb_mk s X) := t_l_X12_roomsIn_4 _ _ _ h
set_option maxHeartbeats 4000000 in
set_option maxRecDepth 20000 in
theorem t_X12_roomsIn {G : yb_G} {X : List (FieldType × Nat)} {a1 : Int32} {s : yb_S} {out : Int32} (h : f_X12_roomsIn a1 s = some out) : Ct G yX12_roomsIn cX12_roomsIn 4 (Option.some .int) (yb_rm 1) [.ref (yb_ad G 176), .int a1] (yb_mk s X) (yb_qi X s out) := by
  refine Ct.of (own := RX12) (ini := false) (vs := [some (.ref (yb_ad G 176)), some (.int a1), none, none]) ⟨rfl, by decide +kernel⟩ (fun h => by cases h) (Nat.le_of_ble_eq_true rfl) rfl ?_
  unfold f_X12_roomsIn at h
  refine n_iconst (0 : Int32) dX12_roomsIn_0 ic_0 ?_
  refine n_istore_n (i := 2) (vs' := [some (.ref (yb_ad G 176)), some (.int a1), some (.int (0 : Int32)), none]) dX12_roomsIn_1 rfl (Nat.le_of_ble_eq_true rfl) rfl rfl ?_
  refine n_iconst (0 : Int32) dX12_roomsIn_2 ic_0 ?_
  refine n_istore_n (i := 3) (vs' := [some (.ref (yb_ad G 176)), some (.int a1), some (.int (0 : Int32)), some (.int (0 : Int32))]) dX12_roomsIn_3 rfl (Nat.le_of_ble_eq_true rfl) rfl rfl ?_
  exact p_jump (tl_X12_roomsIn_4 h) (And.intro rfl (And.intro rfl (And.intro rfl (And.intro rfl trivial))))
set_option maxHeartbeats 4000000 in
set_option maxRecDepth 20000 in
theorem tj_X12_asksOf__155 {G : yb_G} {X : List (FieldType × Nat)} {x3 : Int32} {y0 : Int32} {y1 : Int32} {s : yb_S} {out : yb_S} (h : j_X12_asksOf__155 x3 y0 y1 s = some out) : Rn G RX12 cX12_asksOf_ 4 none false (yb_rm 7) (yb_qv X out) 0 0 155 [some (.ref (yb_ad G 176)), none, none, some (.int x3)] [.int y0, .int y1, .ref (yb_ad G 337)] (yb_mk s X) := by
  unfold j_X12_asksOf__155 at h
  obtain ⟨s29, hs29, h⟩ := yb_bind h
  refine p_iast hs29 (sh_337 _ _) dX12_asksOf__155 ?_
  refine n_aload_n (i := 0) dX12_asksOf__156 rfl rfl ?_
  refine p_getr fl_X12_188 (sh_176 _ _) rfl (rR_176_59 _ _) dX12_asksOf__157 ?_
  refine n_bipush (15 : Int32) dX12_asksOf__160 bp_15 ?_
  refine n_aload_n (i := 0) dX12_asksOf__162 rfl rfl ?_
  refine n_iload_n (i := 3) dX12_asksOf__163 rfl rfl ?_
  obtain ⟨q30, hq30, h⟩ := yb_bind h
  refine p_callVi (As := [.int x3]) (t_X12_roomsIn hq30) cv_X12_479 (sh_176 _ _) rfl rfl (Nat.le_of_ble_eq_true rfl) dX12_asksOf__164 (yb_rok (Nat.le_of_ble_eq_true rfl) (by decide)) ⟨rfl, rfl⟩ ⟨Nat.le_refl _, Nat.le_refl _⟩ (fun k31 => ?_)
  obtain ⟨s32, hs32, h⟩ := yb_bind h
  refine p_iast hs32 (sh_337 _ _) dX12_asksOf__167 ?_
  cases h
  exact n_vret dX12_asksOf__168 rfl (Nat.le_refl _) (Nat.le_refl _) ⟨rfl, rfl⟩
set_option maxHeartbeats 4000000 in
set_option maxRecDepth 20000 in
theorem tj_X12_asksOf__114 {G : yb_G} {X : List (FieldType × Nat)} {x1 : Int32} {x3 : Int32} {y0 : Int32} {y1 : Int32} {s : yb_S} {out : yb_S} (h : j_X12_asksOf__114 x1 x3 y0 y1 s = some out) : Rn G RX12 cX12_asksOf_ 4 none false (yb_rm 7) (yb_qv X out) 0 0 114 [some (.ref (yb_ad G 176)), some (.int x1), none, some (.int x3)] [.int y0, .int y1, .ref (yb_ad G 337)] (yb_mk s X) := by
  unfold j_X12_asksOf__114 at h
  obtain ⟨s21, hs21, h⟩ := yb_bind h
  refine p_iast hs21 (sh_337 _ _) dX12_asksOf__114 ?_
  refine n_aload_n (i := 0) dX12_asksOf__115 rfl rfl ?_
  refine p_getr fl_X12_188 (sh_176 _ _) rfl (rR_176_59 _ _) dX12_asksOf__116 ?_
  refine n_bipush (12 : Int32) dX12_asksOf__119 bp_12 ?_
  refine n_aload_n (i := 0) dX12_asksOf__121 rfl rfl ?_
  refine p_getr fl_X12_16 (sh_176 _ _) rfl (rR_176_2 _ _) dX12_asksOf__122 ?_
  refine n_iload_n (i := 3) dX12_asksOf__125 rfl rfl ?_
  obtain ⟨v22, hv22, h⟩ := yb_bind h
  refine p_iald hv22 (sh_179 _ _) dX12_asksOf__126 ?_
  refine n_aload_n (i := 0) dX12_asksOf__127 rfl rfl ?_
  refine n_iload_n (i := 3) dX12_asksOf__128 rfl rfl ?_
  refine n_iload_n (i := 1) dX12_asksOf__129 rfl rfl ?_
  obtain ⟨q23, hq23, h⟩ := yb_bind h
  refine p_callVi (As := [.int x3, .int x1]) (t_X12_pupilsIn hq23) cv_X12_473 (sh_176 _ _) rfl rfl (Nat.le_of_ble_eq_true rfl) dX12_asksOf__130 (yb_rok (Nat.le_of_ble_eq_true rfl) (by decide)) ⟨rfl, rfl⟩ ⟨Nat.le_refl _, Nat.le_refl _⟩ (fun k24 => ?_)
  refine n_isub dX12_asksOf__133 ?_
  obtain ⟨s25, hs25, h⟩ := yb_bind h
  refine p_iast hs25 (sh_337 _ _) dX12_asksOf__134 ?_
  refine n_aload_n (i := 0) dX12_asksOf__135 rfl rfl ?_
  refine p_getr fl_X12_188 (sh_176 _ _) rfl (rR_176_59 _ _) dX12_asksOf__136 ?_
  refine n_bipush (13 : Int32) dX12_asksOf__139 bp_13 ?_
  refine n_aload_n (i := 0) dX12_asksOf__141 rfl rfl ?_
  refine n_iload_n (i := 3) dX12_asksOf__142 rfl rfl ?_
  refine n_iload_n (i := 1) dX12_asksOf__143 rfl rfl ?_
  obtain ⟨q26, hq26, h⟩ := yb_bind h
  refine p_callVi (As := [.int x3, .int x1]) (t_X12_wants hq26) cv_X12_476 (sh_176 _ _) rfl rfl (Nat.le_of_ble_eq_true rfl) dX12_asksOf__144 (yb_rok (Nat.le_of_ble_eq_true rfl) (by decide)) ⟨rfl, rfl⟩ ⟨Nat.le_refl _, Nat.le_refl _⟩ (fun k27 => ?_)
  refine n_if_eq 154 dX12_asksOf__147 (by decide) (fun c28 => ?_) (fun c28 => ?_)
  · have h := yb_ifp c28 h
    refine n_iconst (0 : Int32) dX12_asksOf__154 ic_0 ?_
    exact p_jump (tj_X12_asksOf__155 h) (And.intro rfl (And.intro rfl trivial))
  · have h := yb_ifn c28 h
    refine n_iconst (1 : Int32) dX12_asksOf__150 ic_1 ?_
    refine n_goto 155 dX12_asksOf__151 (by decide) ?_
    exact p_jump (tj_X12_asksOf__155 h) (And.intro rfl (And.intro rfl trivial))
set_option maxHeartbeats 4000000 in
set_option maxRecDepth 20000 in
theorem tj_X12_asksOf__33 {G : yb_G} {X : List (FieldType × Nat)} {x1 : Int32} {x2 : Int32} {x3 : Int32} {y0 : Int32} {y1 : Int32} {s : yb_S} {out : yb_S} (h : j_X12_asksOf__33 x1 x2 x3 y0 y1 s = some out) : Rn G RX12 cX12_asksOf_ 4 none false (yb_rm 7) (yb_qv X out) 0 0 33 [some (.ref (yb_ad G 176)), some (.int x1), some (.int x2), some (.int x3)] [.int y0, .int y1, .ref (yb_ad G 337)] (yb_mk s X) := by
  unfold j_X12_asksOf__33 at h
  obtain ⟨s6, hs6, h⟩ := yb_bind h
  refine p_iast hs6 (sh_337 _ _) dX12_asksOf__33 ?_
  refine n_aload_n (i := 0) dX12_asksOf__34 rfl rfl ?_
  refine p_getr fl_X12_188 (sh_176 _ _) rfl (rR_176_59 _ _) dX12_asksOf__35 ?_
  refine n_bipush (8 : Int32) dX12_asksOf__38 bp_8 ?_
  refine n_aload_n (i := 0) dX12_asksOf__40 rfl rfl ?_
  refine n_iload_n (i := 1) dX12_asksOf__41 rfl rfl ?_
  refine n_iload_n (i := 3) dX12_asksOf__42 rfl rfl ?_
  obtain ⟨q7, hq7, h⟩ := yb_bind h
  refine p_callVi (As := [.int x1, .int x3]) (t_X12_kinIn hq7) cv_X12_470 (sh_176 _ _) rfl rfl (Nat.le_of_ble_eq_true rfl) dX12_asksOf__43 (yb_rok (Nat.le_of_ble_eq_true rfl) (by decide)) ⟨rfl, rfl⟩ ⟨Nat.le_refl _, Nat.le_refl _⟩ (fun k8 => ?_)
  obtain ⟨s9, hs9, h⟩ := yb_bind h
  refine p_iast hs9 (sh_337 _ _) dX12_asksOf__46 ?_
  refine n_aload_n (i := 0) dX12_asksOf__47 rfl rfl ?_
  refine p_getr fl_X12_188 (sh_176 _ _) rfl (rR_176_59 _ _) dX12_asksOf__48 ?_
  refine n_bipush (9 : Int32) dX12_asksOf__51 bp_9 ?_
  refine n_aload_n (i := 0) dX12_asksOf__53 rfl rfl ?_
  refine p_getr fl_X12_33 (sh_176 _ _) rfl (rR_176_10 _ _) dX12_asksOf__54 ?_
  refine n_iload_n (i := 2) dX12_asksOf__57 rfl rfl ?_
  obtain ⟨v10, hv10, h⟩ := yb_bind h
  refine p_iald hv10 (sh_184 _ _) dX12_asksOf__58 ?_
  obtain ⟨s11, hs11, h⟩ := yb_bind h
  refine p_iast hs11 (sh_337 _ _) dX12_asksOf__59 ?_
  refine n_aload_n (i := 0) dX12_asksOf__60 rfl rfl ?_
  refine p_getr fl_X12_188 (sh_176 _ _) rfl (rR_176_59 _ _) dX12_asksOf__61 ?_
  refine n_bipush (10 : Int32) dX12_asksOf__64 bp_10 ?_
  refine n_aload_n (i := 0) dX12_asksOf__66 rfl rfl ?_
  refine p_getr fl_X12_36 (sh_176 _ _) rfl (rR_176_11 _ _) dX12_asksOf__67 ?_
  refine n_iload_n (i := 2) dX12_asksOf__70 rfl rfl ?_
  obtain ⟨v12, hv12, h⟩ := yb_bind h
  refine p_iald hv12 (sh_185 _ _) dX12_asksOf__71 ?_
  obtain ⟨s13, hs13, h⟩ := yb_bind h
  refine p_iast hs13 (sh_337 _ _) dX12_asksOf__72 ?_
  refine n_aload_n (i := 0) dX12_asksOf__73 rfl rfl ?_
  refine p_getr fl_X12_188 (sh_176 _ _) rfl (rR_176_59 _ _) dX12_asksOf__74 ?_
  refine n_bipush (11 : Int32) dX12_asksOf__77 bp_11 ?_
  refine n_aload_n (i := 0) dX12_asksOf__79 rfl rfl ?_
  refine p_getr fl_X12_78 (sh_176 _ _) rfl (rR_176_26 _ _) dX12_asksOf__80 ?_
  refine n_iload_n (i := 1) dX12_asksOf__83 rfl rfl ?_
  obtain ⟨v14, hv14, h⟩ := yb_bind h
  refine p_iald hv14 (sh_199 _ _) dX12_asksOf__84 ?_
  refine n_iconst (-1 : Int32) dX12_asksOf__85 ic_m1 ?_
  refine n_icmp_ne 93 dX12_asksOf__86 (by decide) (fun c15 => ?_) (fun c15 => ?_)
  · have h := yb_ifn c15 h
    refine n_aload_n (i := 0) dX12_asksOf__93 rfl rfl ?_
    refine p_getr fl_X12_9 (sh_176 _ _) rfl (rR_176_0 _ _) dX12_asksOf__94 ?_
    refine n_iload_n (i := 3) dX12_asksOf__97 rfl rfl ?_
    obtain ⟨v16, hv16, h⟩ := yb_bind h
    refine p_iald hv16 (sh_177 _ _) dX12_asksOf__98 ?_
    refine n_aload_n (i := 0) dX12_asksOf__99 rfl rfl ?_
    refine p_getr fl_X12_9 (sh_176 _ _) rfl (rR_176_0 _ _) dX12_asksOf__100 ?_
    refine n_aload_n (i := 0) dX12_asksOf__103 rfl rfl ?_
    refine p_getr fl_X12_78 (sh_176 _ _) rfl (rR_176_26 _ _) dX12_asksOf__104 ?_
    refine n_iload_n (i := 1) dX12_asksOf__107 rfl rfl ?_
    obtain ⟨v17, hv17, h⟩ := yb_bind h
    refine p_iald hv17 (sh_199 _ _) dX12_asksOf__108 ?_
    obtain ⟨v18, hv18, h⟩ := yb_bind h
    refine p_iald hv18 (sh_177 _ _) dX12_asksOf__109 ?_
    refine n_isub dX12_asksOf__110 ?_
    obtain ⟨q19, hq19, h⟩ := yb_bind h
    refine p_callSi (As := [.int (v16 - v18)]) (t_X12_size hq19) cs_X12_299 rfl rfl (Nat.le_of_ble_eq_true rfl) dX12_asksOf__111 (yb_rok (Nat.le_of_ble_eq_true rfl) (by decide)) ⟨rfl, rfl⟩ ⟨Nat.le_refl _, Nat.le_refl _⟩ (fun k20 => ?_)
    exact p_jump (tj_X12_asksOf__114 h) (And.intro rfl (And.intro rfl (And.intro rfl trivial)))
  · have h := yb_ifp c15 h
    refine n_iconst (0 : Int32) dX12_asksOf__89 ic_0 ?_
    refine n_goto 114 dX12_asksOf__90 (by decide) ?_
    exact p_jump (tj_X12_asksOf__114 h) (And.intro rfl (And.intro rfl (And.intro rfl trivial)))
set_option maxHeartbeats 4000000 in
set_option maxRecDepth 20000 in
theorem t_X12_asksOf_ {G : yb_G} {X : List (FieldType × Nat)} {a1 : Int32} {a2 : Int32} {s : yb_S} {out : yb_S} (h : f_X12_asksOf_ a1 a2 s = some out) : Ct G yX12_asksOf_ cX12_asksOf_ 4 none (yb_rm 7) [.ref (yb_ad G 176), .int a1, .int a2] (yb_mk s X) (yb_qv X out) := by
  refine Ct.of (own := RX12) (ini := false) (vs := [some (.ref (yb_ad G 176)), some (.int a1), some (.int a2), none]) ⟨rfl, by decide +kernel⟩ (fun h => by cases h) (Nat.le_of_ble_eq_true rfl) rfl ?_
  unfold f_X12_asksOf_ at h
  refine n_aload_n (i := 0) dX12_asksOf__0 rfl rfl ?_
  refine n_iload_n (i := 1) dX12_asksOf__1 rfl rfl ?_
  obtain ⟨q1, hq1, h⟩ := yb_bind h
  refine p_callVv (As := [.int a1]) (t_X12_asksOf hq1) cv_X12_467 (sh_176 _ _) rfl rfl (Nat.le_of_ble_eq_true rfl) dX12_asksOf__2 (yb_rok (Nat.le_of_ble_eq_true rfl) (by decide)) ⟨rfl, rfl⟩ ⟨Nat.le_refl _, Nat.le_refl _⟩ (fun k2 => ?_)
  refine n_aload_n (i := 0) dX12_asksOf__5 rfl rfl ?_
  refine p_getr fl_X12_30 (sh_176 _ _) rfl (rR_176_9 _ _) dX12_asksOf__6 ?_
  refine n_iload_n (i := 2) dX12_asksOf__9 rfl rfl ?_
  obtain ⟨v3, hv3, h⟩ := yb_bind h
  refine p_iald hv3 (sh_183 _ _) dX12_asksOf__10 ?_
  refine n_istore_n (i := 3) (vs' := [some (.ref (yb_ad G 176)), some (.int a1), some (.int a2), some (.int v3)]) dX12_asksOf__11 rfl (Nat.le_of_ble_eq_true rfl) rfl rfl ?_
  refine n_aload_n (i := 0) dX12_asksOf__12 rfl rfl ?_
  refine p_getr fl_X12_188 (sh_176 _ _) rfl (rR_176_59 _ _) dX12_asksOf__13 ?_
  refine n_bipush (7 : Int32) dX12_asksOf__16 bp_7 ?_
  refine n_aload_n (i := 0) dX12_asksOf__18 rfl rfl ?_
  refine p_getr fl_X12_78 (sh_176 _ _) rfl (rR_176_26 _ _) dX12_asksOf__19 ?_
  refine n_iload_n (i := 1) dX12_asksOf__22 rfl rfl ?_
  obtain ⟨v4, hv4, h⟩ := yb_bind h
  refine p_iald hv4 (sh_199 _ _) dX12_asksOf__23 ?_
  refine n_iload_n (i := 3) dX12_asksOf__24 rfl rfl ?_
  refine n_icmp_ne 32 dX12_asksOf__25 (by decide) (fun c5 => ?_) (fun c5 => ?_)
  · have h := yb_ifn c5 h
    refine n_iconst (0 : Int32) dX12_asksOf__32 ic_0 ?_
    exact p_jump (tj_X12_asksOf__33 h) (And.intro rfl (And.intro rfl (And.intro rfl (And.intro rfl trivial))))
  · have h := yb_ifp c5 h
    refine n_iconst (1 : Int32) dX12_asksOf__28 ic_1 ?_
    refine n_goto 33 dX12_asksOf__29 (by decide) ?_
    exact p_jump (tj_X12_asksOf__33 h) (And.intro rfl (And.intro rfl (And.intro rfl (And.intro rfl trivial))))
set_option maxHeartbeats 4000000 in
set_option maxRecDepth 20000 in
theorem t_X12_isFamily {G : yb_G} {X : List (FieldType × Nat)} {a1 : Int32} {s : yb_S} {out : Int32} (h : f_X12_isFamily a1 s = some out) : Ct G yX12_isFamily cX12_isFamily 2 (Option.some .boolean) (yb_rm 2) [.ref (yb_ad G 176), .int a1] (yb_mk s X) (yb_qi X s out) := by
  refine Ct.of (own := RX12) (ini := false) (vs := [some (.ref (yb_ad G 176)), some (.int a1)]) ⟨rfl, by decide +kernel⟩ (fun h => by cases h) (Nat.le_of_ble_eq_true rfl) rfl ?_
  unfold f_X12_isFamily at h
  refine n_iload_n (i := 1) dX12_isFamily_0 rfl rfl ?_
  refine n_i2l dX12_isFamily_1 ?_
  refine n_lconst (0 : Int64) dX12_isFamily_2 rfl ?_
  refine n_aload_n (i := 0) dX12_isFamily_3 rfl rfl ?_
  refine p_geti fl_X12_254 (sh_176 _ _) rfl dX12_isFamily_4 ?_
  refine n_iconst (1 : Int32) dX12_isFamily_7 ic_1 ?_
  refine n_isub dX12_isFamily_8 ?_
  refine n_i2l dX12_isFamily_9 ?_
  obtain ⟨q1, hq1, h⟩ := yb_bind h
  refine p_callSi (As := [.long (a1.toInt64), .long (0 : Int64), .long (((s.1 176 27) - (1 : Int32)).toInt64)]) (t_X12_in hq1) cs_X12_247 rfl rfl (Nat.le_of_ble_eq_true rfl) dX12_isFamily_10 (yb_rok (Nat.le_of_ble_eq_true rfl) (by decide)) ⟨rfl, rfl⟩ ⟨Nat.le_refl _, Nat.le_refl _⟩ (fun k2 => ?_)
  cases h
  exact n_iret dX12_isFamily_13 rfl (yb_okv_b k2) (Nat.le_refl _) (Nat.le_refl _) ⟨rfl, rfl⟩
set_option maxHeartbeats 4000000 in
set_option maxRecDepth 20000 in
theorem t_X12_isHome {G : yb_G} {X : List (FieldType × Nat)} {a1 : Int32} {s : yb_S} {out : Int32} (h : f_X12_isHome a1 s = some out) : Ct G yX12_isHome cX12_isHome 2 (Option.some .boolean) (yb_rm 2) [.ref (yb_ad G 176), .int a1] (yb_mk s X) (yb_qi X s out) := by
  refine Ct.of (own := RX12) (ini := false) (vs := [some (.ref (yb_ad G 176)), some (.int a1)]) ⟨rfl, by decide +kernel⟩ (fun h => by cases h) (Nat.le_of_ble_eq_true rfl) rfl ?_
  unfold f_X12_isHome at h
  refine n_iload_n (i := 1) dX12_isHome_0 rfl rfl ?_
  refine n_i2l dX12_isHome_1 ?_
  refine n_lconst (0 : Int64) dX12_isHome_2 rfl ?_
  refine n_aload_n (i := 0) dX12_isHome_3 rfl rfl ?_
  refine p_geti fl_X12_251 (sh_176 _ _) rfl dX12_isHome_4 ?_
  refine n_iconst (1 : Int32) dX12_isHome_7 ic_1 ?_
  refine n_isub dX12_isHome_8 ?_
  refine n_i2l dX12_isHome_9 ?_
  obtain ⟨q1, hq1, h⟩ := yb_bind h
  refine p_callSi (As := [.long (a1.toInt64), .long (0 : Int64), .long (((s.1 176 15) - (1 : Int32)).toInt64)]) (t_X12_in hq1) cs_X12_247 rfl rfl (Nat.le_of_ble_eq_true rfl) dX12_isHome_10 (yb_rok (Nat.le_of_ble_eq_true rfl) (by decide)) ⟨rfl, rfl⟩ ⟨Nat.le_refl _, Nat.le_refl _⟩ (fun k2 => ?_)
  cases h
  exact n_iret dX12_isHome_13 rfl (yb_okv_b k2) (Nat.le_refl _) (Nat.le_refl _) ⟨rfl, rfl⟩
set_option maxHeartbeats 4000000 in
set_option maxRecDepth 20000 in
theorem tj_X12_lodger_30 {G : yb_G} {X : List (FieldType × Nat)} {rc2 : (Int32 → Option Int32)} {x1 : Int32} {x2 : Int32} {s : yb_S} {out : Int32} (hrc2 : ∀ (x2' : Int32), rc2 x2' = some out → Rn G RX12 cX12_lodger 3 (Option.some .int) false (yb_rm 2) (yb_qi X s out) 0 0 2 [some (.ref (yb_ad G 176)), some (.int x1), some (.int x2')] [] (yb_mk s X)) (h : j_X12_lodger_30 rc2 x1 x2 s = some out) : Rn G RX12 cX12_lodger 3 (Option.some .int) false (yb_rm 2) (yb_qi X s out) 0 0 30 [some (.ref (yb_ad G 176)), some (.int x1), some (.int x2)] [] (yb_mk s X) := by
  unfold j_X12_lodger_30 at h
  refine n_iinc (vs' := [some (.ref (yb_ad G 176)), some (.int x1), some (.int (x2 + (1 : Int32)))]) dX12_lodger_30 rfl (ii_1 _) (Nat.le_of_ble_eq_true rfl) rfl rfl ?_
  refine n_goto 2 dX12_lodger_33 (by decide) ?_
  exact p_jump (hrc2 (x2 + (1 : Int32)) h) (And.intro rfl (And.intro rfl (And.intro rfl trivial)))
set_option maxHeartbeats 4000000 in
set_option maxRecDepth 20000 in
theorem t_l_X12_lodger_2 {G : yb_G} {X : List (FieldType × Nat)} {x1 : Int32} {s : yb_S} {out : Int32} : ∀ (k0 : Nat) (x2 : Int32), l_X12_lodger_2 x1 s k0 x2 = some out → Rn G RX12 cX12_lodger 3 (Option.some .int) false (yb_rm 2) (yb_qi X s out) 0 0 2 [some (.ref (yb_ad G 176)), some (.int x1), some (.int x2)] [] (yb_mk s X) := by
  intro k0
  induction k0 with
  | zero => intro x2 h; cases h
  | succ k0 ih =>
    intro x2 h
    have h : f_X12_lodger_2 (fun x2 => l_X12_lodger_2 x1 s k0 x2) x1 s x2 = some out := h
    have hrc2 := ih
    unfold f_X12_lodger_2 at h
    refine n_iload_n (i := 2) dX12_lodger_2 rfl rfl ?_
    refine n_aload_n (i := 0) dX12_lodger_3 rfl rfl ?_
    refine p_geti fl_X12_254 (sh_176 _ _) rfl dX12_lodger_4 ?_
    refine n_icmp_ge 36 dX12_lodger_7 (by decide) (fun c1 => ?_) (fun c1 => ?_)
    · have h := yb_ifp c1 h
      refine n_iconst (-1 : Int32) dX12_lodger_36 ic_m1 ?_
      cases h
      exact n_iret dX12_lodger_37 rfl rfl (Nat.le_refl _) (Nat.le_refl _) ⟨rfl, rfl⟩
    · have h := yb_ifn c1 h
      refine n_aload_n (i := 0) dX12_lodger_10 rfl rfl ?_
      refine n_iload_n (i := 2) dX12_lodger_11 rfl rfl ?_
      obtain ⟨q2, hq2, h⟩ := yb_bind h
      refine p_callVi (As := [.int x2]) (t_X12_isHoused hq2) cv_X12_287 (sh_176 _ _) rfl rfl (Nat.le_of_ble_eq_true rfl) dX12_lodger_12 (yb_rok (Nat.le_of_ble_eq_true rfl) (by decide)) ⟨rfl, rfl⟩ ⟨Nat.le_refl _, Nat.le_refl _⟩ (fun k3 => ?_)
      refine n_if_eq 30 dX12_lodger_15 (by decide) (fun c4 => ?_) (fun c4 => ?_)
      · have h := yb_ifp c4 h
        exact p_jump (tj_X12_lodger_30 hrc2 h) (And.intro rfl (And.intro rfl (And.intro rfl trivial)))
      · have h := yb_ifn c4 h
        refine n_aload_n (i := 0) dX12_lodger_18 rfl rfl ?_
        refine p_getr fl_X12_69 (sh_176 _ _) rfl (rR_176_23 _ _) dX12_lodger_19 ?_
        refine n_iload_n (i := 2) dX12_lodger_22 rfl rfl ?_
        obtain ⟨v5, hv5, h⟩ := yb_bind h
        refine p_iald hv5 (sh_196 _ _) dX12_lodger_23 ?_
        refine n_iload_n (i := 1) dX12_lodger_24 rfl rfl ?_
        refine n_icmp_ne 30 dX12_lodger_25 (by decide) (fun c6 => ?_) (fun c6 => ?_)
        · have h := yb_ifn c6 h
          exact p_jump (tj_X12_lodger_30 hrc2 h) (And.intro rfl (And.intro rfl (And.intro rfl trivial)))
        · have h := yb_ifp c6 h
          refine n_iload_n (i := 2) dX12_lodger_28 rfl rfl ?_
          cases h
          exact n_iret dX12_lodger_29 rfl rfl (Nat.le_refl _) (Nat.le_refl _) ⟨rfl, rfl⟩
set_option maxHeartbeats 4000000 in
set_option maxRecDepth 20000 in
theorem tl_X12_lodger_2 {G : yb_G} {X : List (FieldType × Nat)} {x1 : Int32} {s : yb_S} {out : Int32} {x2 : Int32} (h : l_X12_lodger_2 x1 s yb_N x2 = some out) : Rn G RX12 cX12_lodger 3 (Option.some .int) false (yb_rm 2) (yb_qi X s out) 0 0 2 [some (.ref (yb_ad G 176)), some (.int x1), some (.int x2)] [] (yb_mk s X) := t_l_X12_lodger_2 _ _ h
set_option maxHeartbeats 4000000 in
set_option maxRecDepth 20000 in
theorem t_X12_lodger {G : yb_G} {X : List (FieldType × Nat)} {a1 : Int32} {s : yb_S} {out : Int32} (h : f_X12_lodger a1 s = some out) : Ct G yX12_lodger cX12_lodger 3 (Option.some .int) (yb_rm 2) [.ref (yb_ad G 176), .int a1] (yb_mk s X) (yb_qi X s out) := by
  refine Ct.of (own := RX12) (ini := false) (vs := [some (.ref (yb_ad G 176)), some (.int a1), none]) ⟨rfl, by decide +kernel⟩ (fun h => by cases h) (Nat.le_of_ble_eq_true rfl) rfl ?_
  unfold f_X12_lodger at h
  refine n_iconst (0 : Int32) dX12_lodger_0 ic_0 ?_
  refine n_istore_n (i := 2) (vs' := [some (.ref (yb_ad G 176)), some (.int a1), some (.int (0 : Int32))]) dX12_lodger_1 rfl (Nat.le_of_ble_eq_true rfl) rfl rfl ?_
  exact p_jump (tl_X12_lodger_2 h) (And.intro rfl (And.intro rfl (And.intro rfl trivial)))
set_option maxHeartbeats 4000000 in
set_option maxRecDepth 20000 in
theorem tj_X12_isApart_66 {G : yb_G} {X : List (FieldType × Nat)} {rc2 : (Int32 → Option Int32)} {x1 : Int32} {x2 : Int32} {x3 : Int32} {s : yb_S} {out : Int32} (hrc2 : ∀ (x3' : Int32), rc2 x3' = some out → Rn G RX12 cX12_isApart 4 (Option.some .boolean) false (yb_rm 3) (yb_qi X s out) 0 0 2 [some (.ref (yb_ad G 176)), some (.int x1), some (.int x2), some (.int x3')] [] (yb_mk s X)) (h : j_X12_isApart_66 rc2 x1 x2 x3 s = some out) : Rn G RX12 cX12_isApart 4 (Option.some .boolean) false (yb_rm 3) (yb_qi X s out) 0 0 66 [some (.ref (yb_ad G 176)), some (.int x1), some (.int x2), some (.int x3)] [] (yb_mk s X) := by
  unfold j_X12_isApart_66 at h
  refine n_iinc (vs' := [some (.ref (yb_ad G 176)), some (.int x1), some (.int x2), some (.int (x3 + (1 : Int32)))]) dX12_isApart_66 rfl (ii_1 _) (Nat.le_of_ble_eq_true rfl) rfl rfl ?_
  refine n_goto 2 dX12_isApart_69 (by decide) ?_
  exact p_jump (hrc2 (x3 + (1 : Int32)) h) (And.intro rfl (And.intro rfl (And.intro rfl (And.intro rfl trivial))))
set_option maxHeartbeats 4000000 in
set_option maxRecDepth 20000 in
theorem t_l_X12_isApart_2 {G : yb_G} {X : List (FieldType × Nat)} {x1 : Int32} {x2 : Int32} {s : yb_S} {out : Int32} : ∀ (k0 : Nat) (x3 : Int32), l_X12_isApart_2 x1 x2 s k0 x3 = some out → Rn G RX12 cX12_isApart 4 (Option.some .boolean) false (yb_rm 3) (yb_qi X s out) 0 0 2 [some (.ref (yb_ad G 176)), some (.int x1), some (.int x2), some (.int x3)] [] (yb_mk s X) := by
  intro k0
  induction k0 with
  | zero => intro x3 h; cases h
  | succ k0 ih =>
    intro x3 h
    have h : f_X12_isApart_2 (fun x3 => l_X12_isApart_2 x1 x2 s k0 x3) x1 x2 s x3 = some out := h
    have hrc2 := ih
    unfold f_X12_isApart_2 at h
    refine n_iload_n (i := 3) dX12_isApart_2 rfl rfl ?_
    refine n_aload_n (i := 0) dX12_isApart_3 rfl rfl ?_
    refine p_geti fl_X12_254 (sh_176 _ _) rfl dX12_isApart_4 ?_
    refine n_icmp_ge 72 dX12_isApart_7 (by decide) (fun c1 => ?_) (fun c1 => ?_)
    · have h := yb_ifp c1 h
      refine n_iconst (0 : Int32) dX12_isApart_72 ic_0 ?_
      cases h
      exact n_iret dX12_isApart_73 rfl (by decide) (Nat.le_refl _) (Nat.le_refl _) ⟨rfl, rfl⟩
    · have h := yb_ifn c1 h
      refine n_iload_n (i := 3) dX12_isApart_10 rfl rfl ?_
      refine n_iload_n (i := 1) dX12_isApart_11 rfl rfl ?_
      refine n_icmp_eq 66 dX12_isApart_12 (by decide) (fun c2 => ?_) (fun c2 => ?_)
      · have h := yb_ifp c2 h
        exact p_jump (tj_X12_isApart_66 hrc2 h) (And.intro rfl (And.intro rfl (And.intro rfl (And.intro rfl trivial))))
      · have h := yb_ifn c2 h
        refine n_aload_n (i := 0) dX12_isApart_15 rfl rfl ?_
        refine n_iload_n (i := 3) dX12_isApart_16 rfl rfl ?_
        obtain ⟨q3, hq3, h⟩ := yb_bind h
        refine p_callVi (As := [.int x3]) (t_X12_isHoused hq3) cv_X12_287 (sh_176 _ _) rfl rfl (Nat.le_of_ble_eq_true rfl) dX12_isApart_17 (yb_rok (Nat.le_of_ble_eq_true rfl) (by decide)) ⟨rfl, rfl⟩ ⟨Nat.le_refl _, Nat.le_refl _⟩ (fun k4 => ?_)
        refine n_if_eq 66 dX12_isApart_20 (by decide) (fun c5 => ?_) (fun c5 => ?_)
        · have h := yb_ifp c5 h
          exact p_jump (tj_X12_isApart_66 hrc2 h) (And.intro rfl (And.intro rfl (And.intro rfl (And.intro rfl trivial))))
        · have h := yb_ifn c5 h
          refine n_aload_n (i := 0) dX12_isApart_23 rfl rfl ?_
          refine p_getr fl_X12_9 (sh_176 _ _) rfl (rR_176_0 _ _) dX12_isApart_24 ?_
          refine n_aload_n (i := 0) dX12_isApart_27 rfl rfl ?_
          refine n_iload_n (i := 3) dX12_isApart_28 rfl rfl ?_
          obtain ⟨q6, hq6, h⟩ := yb_bind h
          refine p_callVi (As := [.int x3]) (t_X12_townFor hq6) cv_X12_458 (sh_176 _ _) rfl rfl (Nat.le_of_ble_eq_true rfl) dX12_isApart_29 (yb_rok (Nat.le_of_ble_eq_true rfl) (by decide)) ⟨rfl, rfl⟩ ⟨Nat.le_refl _, Nat.le_refl _⟩ (fun k7 => ?_)
          obtain ⟨v8, hv8, h⟩ := yb_bind h
          refine p_iald hv8 (sh_177 _ _) dX12_isApart_32 ?_
          refine n_aload_n (i := 0) dX12_isApart_33 rfl rfl ?_
          refine p_getr fl_X12_9 (sh_176 _ _) rfl (rR_176_0 _ _) dX12_isApart_34 ?_
          refine n_iload_n (i := 2) dX12_isApart_37 rfl rfl ?_
          obtain ⟨v9, hv9, h⟩ := yb_bind h
          refine p_iald hv9 (sh_177 _ _) dX12_isApart_38 ?_
          refine n_isub dX12_isApart_39 ?_
          obtain ⟨q10, hq10, h⟩ := yb_bind h
          refine p_callSi (As := [.int (v8 - v9)]) (t_X12_size hq10) cs_X12_299 rfl rfl (Nat.le_of_ble_eq_true rfl) dX12_isApart_40 (yb_rok (Nat.le_of_ble_eq_true rfl) (by decide)) ⟨rfl, rfl⟩ ⟨Nat.le_refl _, Nat.le_refl _⟩ (fun k11 => ?_)
          refine n_aload_n (i := 0) dX12_isApart_43 rfl rfl ?_
          refine p_getr fl_X12_83 (sh_176 _ _) rfl (rR_176_28 _ _) dX12_isApart_44 ?_
          refine n_aload_n (i := 0) dX12_isApart_47 rfl rfl ?_
          refine p_getr fl_X12_63 (sh_176 _ _) rfl (rR_176_21 _ _) dX12_isApart_48 ?_
          refine n_iload_n (i := 1) dX12_isApart_51 rfl rfl ?_
          obtain ⟨v12, hv12, h⟩ := yb_bind h
          refine p_iald hv12 (sh_194 _ _) dX12_isApart_52 ?_
          obtain ⟨r13, hr13, h⟩ := yb_bind h
          refine p_aald hr13 (sh_200 _ _) (by decide) rfl (rF_200 _ _) dX12_isApart_53 ?_
          refine n_aload_n (i := 0) dX12_isApart_54 rfl rfl ?_
          refine p_getr fl_X12_63 (sh_176 _ _) rfl (rR_176_21 _ _) dX12_isApart_55 ?_
          refine n_iload_n (i := 3) dX12_isApart_58 rfl rfl ?_
          obtain ⟨v14, hv14, h⟩ := yb_bind h
          refine p_iald hv14 (sh_194 _ _) dX12_isApart_59 ?_
          obtain ⟨v15, hv15, h⟩ := yb_bind h
          refine p_iald hv15 (shF_200 hr13 _ _) dX12_isApart_60 ?_
          refine n_icmp_ge 66 dX12_isApart_61 (by decide) (fun c16 => ?_) (fun c16 => ?_)
          · have h := yb_ifp c16 h
            exact p_jump (tj_X12_isApart_66 hrc2 h) (And.intro rfl (And.intro rfl (And.intro rfl (And.intro rfl trivial))))
          · have h := yb_ifn c16 h
            refine n_iconst (1 : Int32) dX12_isApart_64 ic_1 ?_
            cases h
            exact n_iret dX12_isApart_65 rfl (by decide) (Nat.le_refl _) (Nat.le_refl _) ⟨rfl, rfl⟩
set_option maxHeartbeats 4000000 in
set_option maxRecDepth 20000 in
theorem tl_X12_isApart_2 {G : yb_G} {X : List (FieldType × Nat)} {x1 : Int32} {x2 : Int32} {s : yb_S} {out : Int32} {x3 : Int32} (h : l_X12_isApart_2 x1 x2 s yb_N x3 = some out) : Rn G RX12 cX12_isApart 4 (Option.some .boolean) false (yb_rm 3) (yb_qi X s out) 0 0 2 [some (.ref (yb_ad G 176)), some (.int x1), some (.int x2), some (.int x3)] [] (yb_mk s X) := t_l_X12_isApart_2 _ _ h
set_option maxHeartbeats 4000000 in
set_option maxRecDepth 20000 in
theorem t_X12_isApart {G : yb_G} {X : List (FieldType × Nat)} {a1 : Int32} {a2 : Int32} {s : yb_S} {out : Int32} (h : f_X12_isApart a1 a2 s = some out) : Ct G yX12_isApart cX12_isApart 4 (Option.some .boolean) (yb_rm 3) [.ref (yb_ad G 176), .int a1, .int a2] (yb_mk s X) (yb_qi X s out) := by
  refine Ct.of (own := RX12) (ini := false) (vs := [some (.ref (yb_ad G 176)), some (.int a1), some (.int a2), none]) ⟨rfl, by decide +kernel⟩ (fun h => by cases h) (Nat.le_of_ble_eq_true rfl) rfl ?_
  unfold f_X12_isApart at h
  refine n_iconst (0 : Int32) dX12_isApart_0 ic_0 ?_
  refine n_istore_n (i := 3) (vs' := [some (.ref (yb_ad G 176)), some (.int a1), some (.int a2), some (.int (0 : Int32))]) dX12_isApart_1 rfl (Nat.le_of_ble_eq_true rfl) rfl rfl ?_
  exact p_jump (tl_X12_isApart_2 h) (And.intro rfl (And.intro rfl (And.intro rfl (And.intro rfl trivial))))
set_option maxHeartbeats 4000000 in
set_option maxRecDepth 20000 in
theorem tj_X12_barOf_173 {G : yb_G} {X : List (FieldType × Nat)} {x1 : Int32} {x2 : Int32} {x3 : Int32} {s : yb_S} {out : (Int32 × yb_S)} (h : j_X12_barOf_173 x1 x2 x3 s = some out) : Rn G RX12 cX12_barOf 5 (Option.some .int) false (yb_rm 8) (yb_qi X out.2 out.1) 0 0 173 [some (.ref (yb_ad G 176)), some (.int x1), some (.int x2), some (.int x3), none] [] (yb_mk s X) := by
  unfold j_X12_barOf_173 at h
  refine n_aload_n (i := 0) dX12_barOf_173 rfl rfl ?_
  refine p_getr fl_X12_26 (sh_176 _ _) rfl (rR_176_5 _ _) dX12_barOf_174 ?_
  refine n_iload_n (i := 3) dX12_barOf_177 rfl rfl ?_
  obtain ⟨v19, hv19, h⟩ := yb_bind h
  refine p_zald hv19 (sh_182 _ _) dX12_barOf_178 ?_
  refine n_if_eq 185 dX12_barOf_179 (by decide) (fun c20 => ?_) (fun c20 => ?_)
  · have h := yb_ifp c20 h
    refine n_aload_n (i := 0) dX12_barOf_185 rfl rfl ?_
    refine n_iload_n (i := 1) dX12_barOf_186 rfl rfl ?_
    refine n_iload_n (i := 3) dX12_barOf_187 rfl rfl ?_
    obtain ⟨q21, hq21, h⟩ := yb_bind h
    refine p_callVi (As := [.int x1, .int x3]) (t_X12_isApart hq21) cv_X12_500 (sh_176 _ _) rfl rfl (Nat.le_of_ble_eq_true rfl) dX12_barOf_188 (yb_rok (Nat.le_of_ble_eq_true rfl) (by decide)) ⟨rfl, rfl⟩ ⟨Nat.le_refl _, Nat.le_refl _⟩ (fun k22 => ?_)
    refine n_if_eq 197 dX12_barOf_191 (by decide) (fun c23 => ?_) (fun c23 => ?_)
    · have h := yb_ifp c23 h
      refine n_aload_n (i := 0) dX12_barOf_197 rfl rfl ?_
      refine n_iload_n (i := 1) dX12_barOf_198 rfl rfl ?_
      refine n_iload_n (i := 2) dX12_barOf_199 rfl rfl ?_
      obtain ⟨q24, hq24, h⟩ := yb_bind h
      refine p_callVv (As := [.int x1, .int x2]) (t_X12_asksOf_ hq24) cv_X12_503 (sh_176 _ _) rfl rfl (Nat.le_of_ble_eq_true rfl) dX12_barOf_200 (yb_rok (Nat.le_of_ble_eq_true rfl) (by decide)) ⟨rfl, rfl⟩ ⟨Nat.le_refl _, Nat.le_refl _⟩ (fun k25 => ?_)
      refine n_aload_n (i := 0) dX12_barOf_203 rfl rfl ?_
      refine n_iconst (4 : Int32) dX12_barOf_204 ic_4 ?_
      obtain ⟨q26, hq26, h⟩ := yb_bind h
      refine p_callVi (As := [.int (4 : Int32)]) (t_X12_tells hq26) cv_X12_482 (sh_176 _ _) rfl rfl (Nat.le_of_ble_eq_true rfl) dX12_barOf_205 (yb_rok (Nat.le_of_ble_eq_true rfl) (by decide)) ⟨rfl, rfl⟩ ⟨Nat.le_refl _, Nat.le_refl _⟩ (fun k27 => ?_)
      refine n_iconst (1 : Int32) dX12_barOf_208 ic_1 ?_
      refine n_icmp_ne 216 dX12_barOf_209 (by decide) (fun c28 => ?_) (fun c28 => ?_)
      · have h := yb_ifn c28 h
        refine n_bipush (9 : Int32) dX12_barOf_216 bp_9 ?_
        cases h
        exact n_iret dX12_barOf_218 rfl rfl (Nat.le_refl _) (Nat.le_refl _) ⟨rfl, rfl⟩
      · have h := yb_ifp c28 h
        refine n_iconst (0 : Int32) dX12_barOf_212 ic_0 ?_
        refine n_goto 218 dX12_barOf_213 (by decide) ?_
        cases h
        exact n_iret dX12_barOf_218 rfl rfl (Nat.le_refl _) (Nat.le_refl _) ⟨rfl, rfl⟩
    · have h := yb_ifn c23 h
      refine n_bipush (8 : Int32) dX12_barOf_194 bp_8 ?_
      cases h
      exact n_iret dX12_barOf_196 rfl rfl (Nat.le_refl _) (Nat.le_refl _) ⟨rfl, rfl⟩
  · have h := yb_ifn c20 h
    refine n_bipush (7 : Int32) dX12_barOf_182 bp_7 ?_
    cases h
    exact n_iret dX12_barOf_184 rfl rfl (Nat.le_refl _) (Nat.le_refl _) ⟨rfl, rfl⟩
set_option maxHeartbeats 4000000 in
set_option maxRecDepth 20000 in
theorem tj_X12_barOf_145 {G : yb_G} {X : List (FieldType × Nat)} {x1 : Int32} {x2 : Int32} {x3 : Int32} {s : yb_S} {out : (Int32 × yb_S)} (h : j_X12_barOf_145 x1 x2 x3 s = some out) : Rn G RX12 cX12_barOf 5 (Option.some .int) false (yb_rm 8) (yb_qi X out.2 out.1) 0 0 145 [some (.ref (yb_ad G 176)), some (.int x1), some (.int x2), some (.int x3), none] [] (yb_mk s X) := by
  unfold j_X12_barOf_145 at h
  refine n_aload_n (i := 0) dX12_barOf_145 rfl rfl ?_
  refine p_getr fl_X12_39 (sh_176 _ _) rfl (rR_176_12 _ _) dX12_barOf_146 ?_
  refine n_iload_n (i := 2) dX12_barOf_149 rfl rfl ?_
  obtain ⟨v17, hv17, h⟩ := yb_bind h
  refine p_iald hv17 (sh_186 _ _) dX12_barOf_150 ?_
  refine n_iconst (4 : Int32) dX12_barOf_151 ic_4 ?_
  refine n_icmp_ge 173 dX12_barOf_152 (by decide) (fun c18 => ?_) (fun c18 => ?_)
  · have h := yb_ifp c18 h
    exact p_jump (tj_X12_barOf_173 h) (And.intro rfl (And.intro rfl (And.intro rfl (And.intro rfl trivial))))
  · have h := yb_ifn c18 h
    refine n_aload_n (i := 0) dX12_barOf_155 rfl rfl ?_
    refine p_getr fl_X12_39 (sh_176 _ _) rfl (rR_176_12 _ _) dX12_barOf_156 ?_
    refine n_iload_n (i := 2) dX12_barOf_159 rfl rfl ?_
    obtain ⟨v29, hv29, h⟩ := yb_bind h
    refine p_iald hv29 (sh_186 _ _) dX12_barOf_160 ?_
    refine n_aload_n (i := 0) dX12_barOf_161 rfl rfl ?_
    refine p_getr fl_X12_57 (sh_176 _ _) rfl (rR_176_19 _ _) dX12_barOf_162 ?_
    refine n_iload_n (i := 1) dX12_barOf_165 rfl rfl ?_
    obtain ⟨v30, hv30, h⟩ := yb_bind h
    refine p_iald hv30 (sh_192 _ _) dX12_barOf_166 ?_
    refine n_icmp_eq 173 dX12_barOf_167 (by decide) (fun c31 => ?_) (fun c31 => ?_)
    · have h := yb_ifp c31 h
      exact p_jump (tj_X12_barOf_173 h) (And.intro rfl (And.intro rfl (And.intro rfl (And.intro rfl trivial))))
    · have h := yb_ifn c31 h
      refine n_bipush (6 : Int32) dX12_barOf_170 bp_6 ?_
      cases h
      exact n_iret dX12_barOf_172 rfl rfl (Nat.le_refl _) (Nat.le_refl _) ⟨rfl, rfl⟩
set_option maxHeartbeats 4000000 in
set_option maxRecDepth 20000 in
theorem tj_X12_barOf_94 {G : yb_G} {X : List (FieldType × Nat)} {x1 : Int32} {x2 : Int32} {x3 : Int32} {s : yb_S} {out : (Int32 × yb_S)} (h : j_X12_barOf_94 x1 x2 x3 s = some out) : Rn G RX12 cX12_barOf 5 (Option.some .int) false (yb_rm 8) (yb_qi X out.2 out.1) 0 0 94 [some (.ref (yb_ad G 176)), some (.int x1), some (.int x2), some (.int x3), none] [] (yb_mk s X) := by
  unfold j_X12_barOf_94 at h
  refine n_aload_n (i := 0) dX12_barOf_94 rfl rfl ?_
  refine p_getr fl_X12_51 (sh_176 _ _) rfl (rR_176_17 _ _) dX12_barOf_95 ?_
  refine n_iload_n (i := 1) dX12_barOf_98 rfl rfl ?_
  obtain ⟨v15, hv15, h⟩ := yb_bind h
  refine p_iald hv15 (sh_190 _ _) dX12_barOf_99 ?_
  refine n_if_le 145 dX12_barOf_100 (by decide) (fun c16 => ?_) (fun c16 => ?_)
  · have h := yb_ifp c16 h
    exact p_jump (tj_X12_barOf_145 h) (And.intro rfl (And.intro rfl (And.intro rfl (And.intro rfl trivial))))
  · have h := yb_ifn c16 h
    refine n_aload_n (i := 0) dX12_barOf_103 rfl rfl ?_
    refine p_getr fl_X12_13 (sh_176 _ _) rfl (rR_176_1 _ _) dX12_barOf_104 ?_
    refine n_iload_n (i := 3) dX12_barOf_107 rfl rfl ?_
    obtain ⟨v32, hv32, h⟩ := yb_bind h
    refine p_iald hv32 (sh_178 _ _) dX12_barOf_108 ?_
    refine n_aload_n (i := 0) dX12_barOf_109 rfl rfl ?_
    refine p_getr fl_X12_57 (sh_176 _ _) rfl (rR_176_19 _ _) dX12_barOf_110 ?_
    refine n_iload_n (i := 1) dX12_barOf_113 rfl rfl ?_
    obtain ⟨v33, hv33, h⟩ := yb_bind h
    refine p_iald hv33 (sh_192 _ _) dX12_barOf_114 ?_
    refine n_ishr dX12_barOf_115 ?_
    refine n_iconst (1 : Int32) dX12_barOf_116 ic_1 ?_
    refine n_iand dX12_barOf_117 ?_
    refine n_if_eq 143 dX12_barOf_118 (by decide) (fun c34 => ?_) (fun c34 => ?_)
    · have h := yb_ifp c34 h
      refine n_iconst (5 : Int32) dX12_barOf_143 ic_5 ?_
      cases h
      exact n_iret dX12_barOf_144 rfl rfl (Nat.le_refl _) (Nat.le_refl _) ⟨rfl, rfl⟩
    · have h := yb_ifn c34 h
      refine n_aload_n (i := 0) dX12_barOf_121 rfl rfl ?_
      refine p_getr fl_X12_16 (sh_176 _ _) rfl (rR_176_2 _ _) dX12_barOf_122 ?_
      refine n_iload_n (i := 3) dX12_barOf_125 rfl rfl ?_
      obtain ⟨v35, hv35, h⟩ := yb_bind h
      refine p_iald hv35 (sh_179 _ _) dX12_barOf_126 ?_
      refine n_aload_n (i := 0) dX12_barOf_127 rfl rfl ?_
      refine n_iload_n (i := 3) dX12_barOf_128 rfl rfl ?_
      refine n_iload_n (i := 1) dX12_barOf_129 rfl rfl ?_
      obtain ⟨q36, hq36, h⟩ := yb_bind h
      refine p_callVi (As := [.int x3, .int x1]) (t_X12_pupilsIn hq36) cv_X12_473 (sh_176 _ _) rfl rfl (Nat.le_of_ble_eq_true rfl) dX12_barOf_130 (yb_rok (Nat.le_of_ble_eq_true rfl) (by decide)) ⟨rfl, rfl⟩ ⟨Nat.le_refl _, Nat.le_refl _⟩ (fun k37 => ?_)
      refine n_isub dX12_barOf_133 ?_
      refine n_aload_n (i := 0) dX12_barOf_134 rfl rfl ?_
      refine p_getr fl_X12_51 (sh_176 _ _) rfl (rR_176_17 _ _) dX12_barOf_135 ?_
      refine n_iload_n (i := 1) dX12_barOf_138 rfl rfl ?_
      obtain ⟨v38, hv38, h⟩ := yb_bind h
      refine p_iald hv38 (sh_190 _ _) dX12_barOf_139 ?_
      refine n_icmp_ge 145 dX12_barOf_140 (by decide) (fun c39 => ?_) (fun c39 => ?_)
      · have h := yb_ifp c39 h
        exact p_jump (tj_X12_barOf_145 h) (And.intro rfl (And.intro rfl (And.intro rfl (And.intro rfl trivial))))
      · have h := yb_ifn c39 h
        refine n_iconst (5 : Int32) dX12_barOf_143 ic_5 ?_
        cases h
        exact n_iret dX12_barOf_144 rfl rfl (Nat.le_refl _) (Nat.le_refl _) ⟨rfl, rfl⟩
set_option maxHeartbeats 4000000 in
set_option maxRecDepth 20000 in
theorem tj_X12_barOf_55 {G : yb_G} {X : List (FieldType × Nat)} {x1 : Int32} {x2 : Int32} {x3 : Int32} {s : yb_S} {out : (Int32 × yb_S)} (h : j_X12_barOf_55 x1 x2 x3 s = some out) : Rn G RX12 cX12_barOf 5 (Option.some .int) false (yb_rm 8) (yb_qi X out.2 out.1) 0 0 55 [some (.ref (yb_ad G 176)), some (.int x1), some (.int x2), some (.int x3), none] [] (yb_mk s X) := by
  unfold j_X12_barOf_55 at h
  refine n_aload_n (i := 0) dX12_barOf_55 rfl rfl ?_
  refine p_getr fl_X12_48 (sh_176 _ _) rfl (rR_176_16 _ _) dX12_barOf_56 ?_
  refine n_iload_n (i := 1) dX12_barOf_59 rfl rfl ?_
  obtain ⟨v10, hv10, h⟩ := yb_bind h
  refine p_iald hv10 (sh_189 _ _) dX12_barOf_60 ?_
  refine n_aload_n (i := 0) dX12_barOf_61 rfl rfl ?_
  refine p_getr fl_X12_33 (sh_176 _ _) rfl (rR_176_10 _ _) dX12_barOf_62 ?_
  refine n_iload_n (i := 2) dX12_barOf_65 rfl rfl ?_
  obtain ⟨v11, hv11, h⟩ := yb_bind h
  refine p_iald hv11 (sh_184 _ _) dX12_barOf_66 ?_
  refine n_icmp_le 72 dX12_barOf_67 (by decide) (fun c12 => ?_) (fun c12 => ?_)
  · have h := yb_ifp c12 h
    refine n_aload_n (i := 0) dX12_barOf_72 rfl rfl ?_
    refine p_getr fl_X12_36 (sh_176 _ _) rfl (rR_176_11 _ _) dX12_barOf_73 ?_
    refine n_iload_n (i := 2) dX12_barOf_76 rfl rfl ?_
    obtain ⟨v13, hv13, h⟩ := yb_bind h
    refine p_iald hv13 (sh_185 _ _) dX12_barOf_77 ?_
    refine n_iconst (1 : Int32) dX12_barOf_78 ic_1 ?_
    refine n_icmp_ne 94 dX12_barOf_79 (by decide) (fun c14 => ?_) (fun c14 => ?_)
    · have h := yb_ifn c14 h
      exact p_jump (tj_X12_barOf_94 h) (And.intro rfl (And.intro rfl (And.intro rfl (And.intro rfl trivial))))
    · have h := yb_ifp c14 h
      refine n_aload_n (i := 0) dX12_barOf_82 rfl rfl ?_
      refine p_getr fl_X12_54 (sh_176 _ _) rfl (rR_176_18 _ _) dX12_barOf_83 ?_
      refine n_iload_n (i := 1) dX12_barOf_86 rfl rfl ?_
      obtain ⟨v40, hv40, h⟩ := yb_bind h
      refine p_iald hv40 (sh_191 _ _) dX12_barOf_87 ?_
      refine n_iconst (1 : Int32) dX12_barOf_88 ic_1 ?_
      refine n_icmp_ne 94 dX12_barOf_89 (by decide) (fun c41 => ?_) (fun c41 => ?_)
      · have h := yb_ifn c41 h
        exact p_jump (tj_X12_barOf_94 h) (And.intro rfl (And.intro rfl (And.intro rfl (And.intro rfl trivial))))
      · have h := yb_ifp c41 h
        refine n_iconst (4 : Int32) dX12_barOf_92 ic_4 ?_
        cases h
        exact n_iret dX12_barOf_93 rfl rfl (Nat.le_refl _) (Nat.le_refl _) ⟨rfl, rfl⟩
  · have h := yb_ifn c12 h
    refine n_iconst (3 : Int32) dX12_barOf_70 ic_3 ?_
    cases h
    exact n_iret dX12_barOf_71 rfl rfl (Nat.le_refl _) (Nat.le_refl _) ⟨rfl, rfl⟩
set_option maxHeartbeats 4000000 in
set_option maxRecDepth 20000 in
theorem t_X12_barOf {G : yb_G} {X : List (FieldType × Nat)} {a1 : Int32} {a2 : Int32} {s : yb_S} {out : (Int32 × yb_S)} (h : f_X12_barOf a1 a2 s = some out) : Ct G yX12_barOf cX12_barOf 5 (Option.some .int) (yb_rm 8) [.ref (yb_ad G 176), .int a1, .int a2] (yb_mk s X) (yb_qi X out.2 out.1) := by
  refine Ct.of (own := RX12) (ini := false) (vs := [some (.ref (yb_ad G 176)), some (.int a1), some (.int a2), none, none]) ⟨rfl, by decide +kernel⟩ (fun h => by cases h) (Nat.le_of_ble_eq_true rfl) rfl ?_
  unfold f_X12_barOf at h
  refine n_aload_n (i := 0) dX12_barOf_0 rfl rfl ?_
  refine p_getr fl_X12_30 (sh_176 _ _) rfl (rR_176_9 _ _) dX12_barOf_1 ?_
  refine n_iload_n (i := 2) dX12_barOf_4 rfl rfl ?_
  obtain ⟨v1, hv1, h⟩ := yb_bind h
  refine p_iald hv1 (sh_183 _ _) dX12_barOf_5 ?_
  refine n_istore_n (i := 3) (vs' := [some (.ref (yb_ad G 176)), some (.int a1), some (.int a2), some (.int v1), none]) dX12_barOf_6 rfl (Nat.le_of_ble_eq_true rfl) rfl rfl ?_
  refine n_aload_n (i := 0) dX12_barOf_7 rfl rfl ?_
  refine n_iload_n (i := 2) dX12_barOf_8 rfl rfl ?_
  obtain ⟨q2, hq2, h⟩ := yb_bind h
  refine p_callVi (As := [.int a2]) (t_X12_lodger hq2) cv_X12_497 (sh_176 _ _) rfl rfl (Nat.le_of_ble_eq_true rfl) dX12_barOf_9 (yb_rok (Nat.le_of_ble_eq_true rfl) (by decide)) ⟨rfl, rfl⟩ ⟨Nat.le_refl _, Nat.le_refl _⟩ (fun k3 => ?_)
  refine n_istore (i := 4) (vs' := [some (.ref (yb_ad G 176)), some (.int a1), some (.int a2), some (.int v1), some (.int q2)]) dX12_barOf_12 (Nat.le_of_ble_eq_true rfl) rfl rfl ?_
  refine n_aload_n (i := 0) dX12_barOf_14 rfl rfl ?_
  refine p_geti fl_X12_275 (sh_176 _ _) rfl dX12_barOf_15 ?_
  refine n_i2l dX12_barOf_18 ?_
  refine n_aload_n (i := 0) dX12_barOf_19 rfl rfl ?_
  refine p_getr fl_X12_42 (sh_176 _ _) rfl (rR_176_13 _ _) dX12_barOf_20 ?_
  refine n_iload_n (i := 2) dX12_barOf_23 rfl rfl ?_
  obtain ⟨v4, hv4, h⟩ := yb_bind h
  refine p_iald hv4 (sh_187 _ _) dX12_barOf_24 ?_
  refine n_i2l dX12_barOf_25 ?_
  refine n_aload_n (i := 0) dX12_barOf_26 rfl rfl ?_
  refine p_getr fl_X12_45 (sh_176 _ _) rfl (rR_176_14 _ _) dX12_barOf_27 ?_
  refine n_iload_n (i := 2) dX12_barOf_30 rfl rfl ?_
  obtain ⟨v5, hv5, h⟩ := yb_bind h
  refine p_iald hv5 (sh_188 _ _) dX12_barOf_31 ?_
  refine n_i2l dX12_barOf_32 ?_
  obtain ⟨q6, hq6, h⟩ := yb_bind h
  refine p_callSi (As := [.long ((s.1 176 7).toInt64), .long (v4.toInt64), .long (v5.toInt64)]) (t_X12_in hq6) cs_X12_247 rfl rfl (Nat.le_of_ble_eq_true rfl) dX12_barOf_33 (yb_rok (Nat.le_of_ble_eq_true rfl) (by decide)) ⟨rfl, rfl⟩ ⟨Nat.le_refl _, Nat.le_refl _⟩ (fun k7 => ?_)
  refine n_if_ne 41 dX12_barOf_36 (by decide) (fun c8 => ?_) (fun c8 => ?_)
  · have h := yb_ifn c8 h
    refine n_iload dX12_barOf_41 rfl ?_
    refine n_iconst (-1 : Int32) dX12_barOf_43 ic_m1 ?_
    refine n_icmp_eq 55 dX12_barOf_44 (by decide) (fun c9 => ?_) (fun c9 => ?_)
    · have h := yb_ifp c9 h
      exact p_jump (tj_X12_barOf_55 h) (And.intro rfl (And.intro rfl (And.intro rfl (And.intro rfl trivial))))
    · have h := yb_ifn c9 h
      refine n_iload dX12_barOf_47 rfl ?_
      refine n_iload_n (i := 1) dX12_barOf_49 rfl rfl ?_
      refine n_icmp_eq 55 dX12_barOf_50 (by decide) (fun c42 => ?_) (fun c42 => ?_)
      · have h := yb_ifp c42 h
        exact p_jump (tj_X12_barOf_55 h) (And.intro rfl (And.intro rfl (And.intro rfl (And.intro rfl trivial))))
      · have h := yb_ifn c42 h
        refine n_iconst (2 : Int32) dX12_barOf_53 ic_2 ?_
        cases h
        exact n_iret dX12_barOf_54 rfl rfl (Nat.le_refl _) (Nat.le_refl _) ⟨rfl, rfl⟩
  · have h := yb_ifp c8 h
    refine n_iconst (1 : Int32) dX12_barOf_39 ic_1 ?_
    cases h
    exact n_iret dX12_barOf_40 rfl rfl (Nat.le_refl _) (Nat.le_refl _) ⟨rfl, rfl⟩
set_option maxHeartbeats 4000000 in
set_option maxRecDepth 20000 in
theorem t_X12_bar {G : yb_G} {X : List (FieldType × Nat)} {a1 : Int32} {a2 : Int32} {s : yb_S} {out : (Int32 × yb_S)} (h : f_X12_bar a1 a2 s = some out) : Ct G yX12_bar cX12_bar 3 (Option.some .int) (yb_rm 9) [.ref (yb_ad G 176), .int a1, .int a2] (yb_mk s X) (yb_qi X out.2 out.1) := by
  refine Ct.of (own := RX12) (ini := false) (vs := [some (.ref (yb_ad G 176)), some (.int a1), some (.int a2)]) ⟨rfl, by decide +kernel⟩ (fun h => by cases h) (Nat.le_of_ble_eq_true rfl) rfl ?_
  unfold f_X12_bar at h
  refine n_aload_n (i := 0) dX12_bar_0 rfl rfl ?_
  refine n_iload_n (i := 1) dX12_bar_1 rfl rfl ?_
  obtain ⟨q1, hq1, h⟩ := yb_bind h
  refine p_callVi (As := [.int a1]) (t_X12_isFamily hq1) cv_X12_282 (sh_176 _ _) rfl rfl (Nat.le_of_ble_eq_true rfl) dX12_bar_2 (yb_rok (Nat.le_of_ble_eq_true rfl) (by decide)) ⟨rfl, rfl⟩ ⟨Nat.le_refl _, Nat.le_refl _⟩ (fun k2 => ?_)
  refine n_if_eq 35 dX12_bar_5 (by decide) (fun c3 => ?_) (fun c3 => ?_)
  · have h := yb_ifp c3 h
    refine n_iconst (-1 : Int32) dX12_bar_35 ic_m1 ?_
    cases h
    exact n_iret dX12_bar_36 rfl rfl (Nat.le_refl _) (Nat.le_refl _) ⟨rfl, rfl⟩
  · have h := yb_ifn c3 h
    refine n_aload_n (i := 0) dX12_bar_8 rfl rfl ?_
    refine n_iload_n (i := 2) dX12_bar_9 rfl rfl ?_
    obtain ⟨q4, hq4, h⟩ := yb_bind h
    refine p_callVi (As := [.int a2]) (t_X12_isHome hq4) cv_X12_506 (sh_176 _ _) rfl rfl (Nat.le_of_ble_eq_true rfl) dX12_bar_10 (yb_rok (Nat.le_of_ble_eq_true rfl) (by decide)) ⟨rfl, rfl⟩ ⟨Nat.le_refl _, Nat.le_refl _⟩ (fun k5 => ?_)
    refine n_if_eq 35 dX12_bar_13 (by decide) (fun c6 => ?_) (fun c6 => ?_)
    · have h := yb_ifp c6 h
      refine n_iconst (-1 : Int32) dX12_bar_35 ic_m1 ?_
      cases h
      exact n_iret dX12_bar_36 rfl rfl (Nat.le_refl _) (Nat.le_refl _) ⟨rfl, rfl⟩
    · have h := yb_ifn c6 h
      refine n_aload_n (i := 0) dX12_bar_16 rfl rfl ?_
      refine p_getr fl_X12_66 (sh_176 _ _) rfl (rR_176_22 _ _) dX12_bar_17 ?_
      refine n_iload_n (i := 1) dX12_bar_20 rfl rfl ?_
      obtain ⟨v7, hv7, h⟩ := yb_bind h
      refine p_iald hv7 (sh_195 _ _) dX12_bar_21 ?_
      refine n_iconst (2 : Int32) dX12_bar_22 ic_2 ?_
      refine n_icmp_eq 35 dX12_bar_23 (by decide) (fun c8 => ?_) (fun c8 => ?_)
      · have h := yb_ifp c8 h
        refine n_iconst (-1 : Int32) dX12_bar_35 ic_m1 ?_
        cases h
        exact n_iret dX12_bar_36 rfl rfl (Nat.le_refl _) (Nat.le_refl _) ⟨rfl, rfl⟩
      · have h := yb_ifn c8 h
        refine n_aload_n (i := 0) dX12_bar_26 rfl rfl ?_
        refine n_iload_n (i := 1) dX12_bar_27 rfl rfl ?_
        refine n_iload_n (i := 2) dX12_bar_28 rfl rfl ?_
        obtain ⟨q9, hq9, h⟩ := yb_bind h
        refine p_callVi (As := [.int a1, .int a2]) (t_X12_barOf hq9) cv_X12_509 (sh_176 _ _) rfl rfl (Nat.le_of_ble_eq_true rfl) dX12_bar_29 (yb_rok (Nat.le_of_ble_eq_true rfl) (by decide)) ⟨rfl, rfl⟩ ⟨Nat.le_refl _, Nat.le_refl _⟩ (fun k10 => ?_)
        refine n_goto 36 dX12_bar_32 (by decide) ?_
        cases h
        exact n_iret dX12_bar_36 rfl rfl (Nat.le_refl _) (Nat.le_refl _) ⟨rfl, rfl⟩
set_option maxHeartbeats 4000000 in
set_option maxRecDepth 20000 in
theorem t_X12_beds {G : yb_G} {X : List (FieldType × Nat)} {a1 : Int32} {s : yb_S} {out : (Int32 × yb_S)} (h : f_X12_beds a1 s = some out) : Ct G yX12_beds cX12_beds 2 (Option.some .boolean) (yb_rm 2) [.ref (yb_ad G 176), .int a1] (yb_mk s X) (yb_qi X out.2 out.1) := by
  refine Ct.of (own := RX12) (ini := false) (vs := [some (.ref (yb_ad G 176)), some (.int a1)]) ⟨rfl, by decide +kernel⟩ (fun h => by cases h) (Nat.le_of_ble_eq_true rfl) rfl ?_
  unfold f_X12_beds at h
  refine n_iload_n (i := 1) dX12_beds_0 rfl rfl ?_
  refine n_i2l dX12_beds_1 ?_
  refine n_lconst (0 : Int64) dX12_beds_2 rfl ?_
  refine n_ldc2 (200 : Int64) k_X12_270 dX12_beds_3 ?_
  obtain ⟨q1, hq1, h⟩ := yb_bind h
  refine p_callSi (As := [.long (a1.toInt64), .long (0 : Int64), .long (200 : Int64)]) (t_X12_in hq1) cs_X12_247 rfl rfl (Nat.le_of_ble_eq_true rfl) dX12_beds_6 (yb_rok (Nat.le_of_ble_eq_true rfl) (by decide)) ⟨rfl, rfl⟩ ⟨Nat.le_refl _, Nat.le_refl _⟩ (fun k2 => ?_)
  refine n_if_ne 14 dX12_beds_9 (by decide) (fun c3 => ?_) (fun c3 => ?_)
  · have h := yb_ifn c3 h
    refine n_aload_n (i := 0) dX12_beds_14 rfl rfl ?_
    refine n_iload_n (i := 1) dX12_beds_15 rfl rfl ?_
    obtain ⟨s4, hs4, h⟩ := yb_bind h
    refine p_puti hs4 fp_X12_272 (sh_176 _ _) rfl rfl rfl dX12_beds_16 ?_
    refine n_iconst (1 : Int32) dX12_beds_19 ic_1 ?_
    cases h
    exact n_iret dX12_beds_20 rfl (by decide) (Nat.le_refl _) (Nat.le_refl _) ⟨rfl, rfl⟩
  · have h := yb_ifp c3 h
    refine n_iconst (0 : Int32) dX12_beds_12 ic_0 ?_
    cases h
    exact n_iret dX12_beds_13 rfl (by decide) (Nat.le_refl _) (Nat.le_refl _) ⟨rfl, rfl⟩
set_option maxHeartbeats 4000000 in
set_option maxRecDepth 20000 in
theorem tj_X12_hallHeads_32 {G : yb_G} {X : List (FieldType × Nat)} {rc4 : (Int32 → Int32 → Option Int32)} {x2 : Int32} {y0 : Int32} {y1 : Int32} {s : yb_S} {out : Int32} (hrc4 : ∀ (x1' : Int32) (x2' : Int32), rc4 x1' x2' = some out → Rn G RX12 cX12_hallHeads 3 (Option.some .int) false (yb_rm 1) (yb_qi X s out) 0 0 4 [some (.ref (yb_ad G 176)), some (.int x1'), some (.int x2')] [] (yb_mk s X)) (h : j_X12_hallHeads_32 rc4 x2 y0 y1 s = some out) : Rn G RX12 cX12_hallHeads 3 (Option.some .int) false (yb_rm 1) (yb_qi X s out) 0 0 32 [some (.ref (yb_ad G 176)), none, some (.int x2)] [.int y0, .int y1] (yb_mk s X) := by
  unfold j_X12_hallHeads_32 at h
  refine n_iadd dX12_hallHeads_32 ?_
  refine n_istore_n (i := 1) (vs' := [some (.ref (yb_ad G 176)), some (.int (y1 + y0)), some (.int x2)]) dX12_hallHeads_33 rfl (Nat.le_of_ble_eq_true rfl) rfl rfl ?_
  refine n_iinc (vs' := [some (.ref (yb_ad G 176)), some (.int (y1 + y0)), some (.int (x2 + (1 : Int32)))]) dX12_hallHeads_34 rfl (ii_1 _) (Nat.le_of_ble_eq_true rfl) rfl rfl ?_
  refine n_goto 4 dX12_hallHeads_37 (by decide) ?_
  exact p_jump (hrc4 (y1 + y0) (x2 + (1 : Int32)) h) (And.intro rfl (And.intro rfl (And.intro rfl trivial)))
set_option maxHeartbeats 4000000 in
set_option maxRecDepth 20000 in
theorem t_l_X12_hallHeads_4 {G : yb_G} {X : List (FieldType × Nat)} {s : yb_S} {out : Int32} : ∀ (k0 : Nat) (x1 : Int32) (x2 : Int32), l_X12_hallHeads_4 s k0 x1 x2 = some out → Rn G RX12 cX12_hallHeads 3 (Option.some .int) false (yb_rm 1) (yb_qi X s out) 0 0 4 [some (.ref (yb_ad G 176)), some (.int x1), some (.int x2)] [] (yb_mk s X) := by
  intro k0
  induction k0 with
  | zero => intro x1 x2 h; cases h
  | succ k0 ih =>
    intro x1 x2 h
    have h : f_X12_hallHeads_4 (fun x1 x2 => l_X12_hallHeads_4 s k0 x1 x2) s x1 x2 = some out := h
    have hrc4 := ih
    unfold f_X12_hallHeads_4 at h
    refine n_iload_n (i := 2) dX12_hallHeads_4 rfl rfl ?_
    refine n_aload_n (i := 0) dX12_hallHeads_5 rfl rfl ?_
    refine p_geti fl_X12_254 (sh_176 _ _) rfl dX12_hallHeads_6 ?_
    refine n_icmp_ge 40 dX12_hallHeads_9 (by decide) (fun c1 => ?_) (fun c1 => ?_)
    · have h := yb_ifp c1 h
      refine n_iload_n (i := 1) dX12_hallHeads_40 rfl rfl ?_
      cases h
      exact n_iret dX12_hallHeads_41 rfl rfl (Nat.le_refl _) (Nat.le_refl _) ⟨rfl, rfl⟩
    · have h := yb_ifn c1 h
      refine n_iload_n (i := 1) dX12_hallHeads_12 rfl rfl ?_
      refine n_aload_n (i := 0) dX12_hallHeads_13 rfl rfl ?_
      refine p_getr fl_X12_66 (sh_176 _ _) rfl (rR_176_22 _ _) dX12_hallHeads_14 ?_
      refine n_iload_n (i := 2) dX12_hallHeads_17 rfl rfl ?_
      obtain ⟨v2, hv2, h⟩ := yb_bind h
      refine p_iald hv2 (sh_195 _ _) dX12_hallHeads_18 ?_
      refine n_if_ne 31 dX12_hallHeads_19 (by decide) (fun c3 => ?_) (fun c3 => ?_)
      · have h := yb_ifn c3 h
        refine n_iconst (0 : Int32) dX12_hallHeads_31 ic_0 ?_
        exact p_jump (tj_X12_hallHeads_32 hrc4 h) (And.intro rfl (And.intro rfl trivial))
      · have h := yb_ifp c3 h
        refine n_aload_n (i := 0) dX12_hallHeads_22 rfl rfl ?_
        refine p_getr fl_X12_48 (sh_176 _ _) rfl (rR_176_16 _ _) dX12_hallHeads_23 ?_
        refine n_iload_n (i := 2) dX12_hallHeads_26 rfl rfl ?_
        obtain ⟨v4, hv4, h⟩ := yb_bind h
        refine p_iald hv4 (sh_189 _ _) dX12_hallHeads_27 ?_
        refine n_goto 32 dX12_hallHeads_28 (by decide) ?_
        exact p_jump (tj_X12_hallHeads_32 hrc4 h) (And.intro rfl (And.intro rfl trivial))
set_option maxHeartbeats 4000000 in
set_option maxRecDepth 20000 in
theorem tl_X12_hallHeads_4 {G : yb_G} {X : List (FieldType × Nat)} {s : yb_S} {out : Int32} {x1 : Int32} {x2 : Int32} (h : l_X12_hallHeads_4 s yb_N x1 x2 = some out) : Rn G RX12 cX12_hallHeads 3 (Option.some .int) false (yb_rm 1) (yb_qi X s out) 0 0 4 [some (.ref (yb_ad G 176)), some (.int x1), some (.int x2)] [] (yb_mk s X) := t_l_X12_hallHeads_4 _ _ _ h
set_option maxHeartbeats 4000000 in
set_option maxRecDepth 20000 in
theorem t_X12_hallHeads {G : yb_G} {X : List (FieldType × Nat)} {s : yb_S} {out : Int32} (h : f_X12_hallHeads s = some out) : Ct G yX12_hallHeads cX12_hallHeads 3 (Option.some .int) (yb_rm 1) [.ref (yb_ad G 176)] (yb_mk s X) (yb_qi X s out) := by
  refine Ct.of (own := RX12) (ini := false) (vs := [some (.ref (yb_ad G 176)), none, none]) ⟨rfl, by decide +kernel⟩ (fun h => by cases h) (Nat.le_of_ble_eq_true rfl) rfl ?_
  unfold f_X12_hallHeads at h
  refine n_iconst (0 : Int32) dX12_hallHeads_0 ic_0 ?_
  refine n_istore_n (i := 1) (vs' := [some (.ref (yb_ad G 176)), some (.int (0 : Int32)), none]) dX12_hallHeads_1 rfl (Nat.le_of_ble_eq_true rfl) rfl rfl ?_
  refine n_iconst (0 : Int32) dX12_hallHeads_2 ic_0 ?_
  refine n_istore_n (i := 2) (vs' := [some (.ref (yb_ad G 176)), some (.int (0 : Int32)), some (.int (0 : Int32))]) dX12_hallHeads_3 rfl (Nat.le_of_ble_eq_true rfl) rfl rfl ?_
  exact p_jump (tl_X12_hallHeads_4 h) (And.intro rfl (And.intro rfl (And.intro rfl trivial)))
set_option maxHeartbeats 4000000 in
set_option maxRecDepth 20000 in
theorem tj_X12_orders_107 {G : yb_G} {X : List (FieldType × Nat)} {rc7 : (Int32 → yb_S → Option yb_S)} {x1 : Int32} {s : yb_S} {out : yb_S} (hrc7 : ∀ (x1' : Int32) (s' : yb_S), rc7 x1' s' = some out → Rn G RX12 cX12_orders 3 none false (yb_rm 5) (yb_qv X out) 0 0 7 [some (.ref (yb_ad G 176)), some (.int x1'), none] [] (yb_mk s' X)) (h : j_X12_orders_107 rc7 x1 s = some out) : Rn G RX12 cX12_orders 3 none false (yb_rm 5) (yb_qv X out) 0 0 107 [some (.ref (yb_ad G 176)), some (.int x1), none] [] (yb_mk s X) := by
  unfold j_X12_orders_107 at h
  refine n_iinc (vs' := [some (.ref (yb_ad G 176)), some (.int (x1 + (1 : Int32))), none]) dX12_orders_107 rfl (ii_1 _) (Nat.le_of_ble_eq_true rfl) rfl rfl ?_
  refine n_goto 7 dX12_orders_110 (by decide) ?_
  exact p_jump (hrc7 (x1 + (1 : Int32)) s h) (And.intro rfl (And.intro rfl trivial))
set_option maxHeartbeats 4000000 in
set_option maxRecDepth 20000 in
theorem tj_X12_orders_90 {G : yb_G} {X : List (FieldType × Nat)} {rc7 : (Int32 → yb_S → Option yb_S)} {x1 : Int32} {x2 : Int32} {s : yb_S} {out : yb_S} (hrc7 : ∀ (x1' : Int32) (s' : yb_S), rc7 x1' s' = some out → Rn G RX12 cX12_orders 3 none false (yb_rm 5) (yb_qv X out) 0 0 7 [some (.ref (yb_ad G 176)), some (.int x1'), none] [] (yb_mk s' X)) (h : j_X12_orders_90 rc7 x1 x2 s = some out) : Rn G RX12 cX12_orders 3 none false (yb_rm 5) (yb_qv X out) 0 0 90 [some (.ref (yb_ad G 176)), some (.int x1), some (.int x2)] [] (yb_mk s X) := by
  unfold j_X12_orders_90 at h
  refine n_aload_n (i := 0) dX12_orders_90 rfl rfl ?_
  refine p_getr fl_X12_194 (sh_176 _ _) rfl (rR_176_61 _ _) dX12_orders_91 ?_
  refine n_iload_n (i := 2) dX12_orders_94 rfl rfl ?_
  refine n_iload_n (i := 1) dX12_orders_95 rfl rfl ?_
  obtain ⟨s9, hs9, h⟩ := yb_bind h
  refine p_iast hs9 (sh_339 _ _) dX12_orders_96 ?_
  refine n_aload_n (i := 0) dX12_orders_97 rfl rfl ?_
  refine n_dup dX12_orders_98 rfl ?_
  refine p_geti fl_X12_512 (sh_176 _ _) rfl dX12_orders_99 ?_
  refine n_iconst (1 : Int32) dX12_orders_102 ic_1 ?_
  refine n_iadd dX12_orders_103 ?_
  obtain ⟨s10, hs10, h⟩ := yb_bind h
  refine p_puti hs10 fp_X12_512 (sh_176 _ _) rfl rfl rfl dX12_orders_104 ?_
  exact p_jump (tj_X12_orders_107 hrc7 h) (And.intro rfl (And.intro rfl trivial))
set_option maxHeartbeats 4000000 in
set_option maxRecDepth 20000 in
theorem t_l_X12_orders_44 {G : yb_G} {X : List (FieldType × Nat)} {rc7 : (Int32 → yb_S → Option yb_S)} {x1 : Int32} {out : yb_S} (hrc7 : ∀ (x1' : Int32) (s' : yb_S), rc7 x1' s' = some out → Rn G RX12 cX12_orders 3 none false (yb_rm 5) (yb_qv X out) 0 0 7 [some (.ref (yb_ad G 176)), some (.int x1'), none] [] (yb_mk s' X)) : ∀ (k0 : Nat) (x2 : Int32) (s : yb_S), l_X12_orders_44 rc7 x1 k0 x2 s = some out → Rn G RX12 cX12_orders 3 none false (yb_rm 5) (yb_qv X out) 0 0 44 [some (.ref (yb_ad G 176)), some (.int x1), some (.int x2)] [] (yb_mk s X) := by
  intro k0
  induction k0 with
  | zero => intro x2 s h; cases h
  | succ k0 ih =>
    intro x2 s h
    have h : f_X12_orders_44 rc7 (fun x2 s => l_X12_orders_44 rc7 x1 k0 x2 s) x1 x2 s = some out := h
    have hrc44 := ih
    unfold f_X12_orders_44 at h
    refine n_iload_n (i := 2) dX12_orders_44 rfl rfl ?_
    refine n_if_le 90 dX12_orders_45 (by decide) (fun c8 => ?_) (fun c8 => ?_)
    · have h := yb_ifp c8 h
      exact p_jump (tj_X12_orders_90 hrc7 h) (And.intro rfl (And.intro rfl (And.intro rfl trivial)))
    · have h := yb_ifn c8 h
      refine n_aload_n (i := 0) dX12_orders_48 rfl rfl ?_
      refine p_getr fl_X12_197 (sh_176 _ _) rfl (rR_176_62 _ _) dX12_orders_49 ?_
      refine n_aload_n (i := 0) dX12_orders_52 rfl rfl ?_
      refine p_getr fl_X12_194 (sh_176 _ _) rfl (rR_176_61 _ _) dX12_orders_53 ?_
      refine n_iload_n (i := 2) dX12_orders_56 rfl rfl ?_
      refine n_iconst (1 : Int32) dX12_orders_57 ic_1 ?_
      refine n_isub dX12_orders_58 ?_
      obtain ⟨v11, hv11, h⟩ := yb_bind h
      refine p_iald hv11 (sh_339 _ _) dX12_orders_59 ?_
      obtain ⟨v12, hv12, h⟩ := yb_bind h
      refine p_iald hv12 (sh_340 _ _) dX12_orders_60 ?_
      refine n_aload_n (i := 0) dX12_orders_61 rfl rfl ?_
      refine p_getr fl_X12_197 (sh_176 _ _) rfl (rR_176_62 _ _) dX12_orders_62 ?_
      refine n_iload_n (i := 1) dX12_orders_65 rfl rfl ?_
      obtain ⟨v13, hv13, h⟩ := yb_bind h
      refine p_iald hv13 (sh_340 _ _) dX12_orders_66 ?_
      refine n_icmp_ge 90 dX12_orders_67 (by decide) (fun c14 => ?_) (fun c14 => ?_)
      · have h := yb_ifp c14 h
        exact p_jump (tj_X12_orders_90 hrc7 h) (And.intro rfl (And.intro rfl (And.intro rfl trivial)))
      · have h := yb_ifn c14 h
        refine n_aload_n (i := 0) dX12_orders_70 rfl rfl ?_
        refine p_getr fl_X12_194 (sh_176 _ _) rfl (rR_176_61 _ _) dX12_orders_71 ?_
        refine n_iload_n (i := 2) dX12_orders_74 rfl rfl ?_
        refine n_aload_n (i := 0) dX12_orders_75 rfl rfl ?_
        refine p_getr fl_X12_194 (sh_176 _ _) rfl (rR_176_61 _ _) dX12_orders_76 ?_
        refine n_iload_n (i := 2) dX12_orders_79 rfl rfl ?_
        refine n_iconst (1 : Int32) dX12_orders_80 ic_1 ?_
        refine n_isub dX12_orders_81 ?_
        obtain ⟨v15, hv15, h⟩ := yb_bind h
        refine p_iald hv15 (sh_339 _ _) dX12_orders_82 ?_
        obtain ⟨s16, hs16, h⟩ := yb_bind h
        refine p_iast hs16 (sh_339 _ _) dX12_orders_83 ?_
        refine n_iinc (vs' := [some (.ref (yb_ad G 176)), some (.int x1), some (.int (x2 + (-1 : Int32)))]) dX12_orders_84 rfl (ii_m1 _) (Nat.le_of_ble_eq_true rfl) rfl rfl ?_
        refine n_goto 44 dX12_orders_87 (by decide) ?_
        exact p_jump (hrc44 (x2 + (-1 : Int32)) s16 h) (And.intro rfl (And.intro rfl (And.intro rfl trivial)))
set_option maxHeartbeats 4000000 in
set_option maxRecDepth 20000 in
theorem tl_X12_orders_44 {G : yb_G} {X : List (FieldType × Nat)} {rc7 : (Int32 → yb_S → Option yb_S)} {x1 : Int32} {out : yb_S} (hrc7 : ∀ (x1' : Int32) (s' : yb_S), rc7 x1' s' = some out → Rn G RX12 cX12_orders 3 none false (yb_rm 5) (yb_qv X out) 0 0 7 [some (.ref (yb_ad G 176)), some (.int x1'), none] [] (yb_mk s' X)) {x2 : Int32} {s : yb_S} (h : l_X12_orders_44 rc7 x1 yb_N x2 s = some out) : Rn G RX12 cX12_orders 3 none false (yb_rm 5) (yb_qv X out) 0 0 44 [some (.ref (yb_ad G 176)), some (.int x1), some (.int x2)] [] (yb_mk s X) := t_l_X12_orders_44 hrc7 _ _ _ h
set_option maxHeartbeats 4000000 in
set_option maxRecDepth 20000 in
theorem t_l_X12_orders_7 {G : yb_G} {X : List (FieldType × Nat)} {out : yb_S} : ∀ (k0 : Nat) (x1 : Int32) (s : yb_S), l_X12_orders_7 k0 x1 s = some out → Rn G RX12 cX12_orders 3 none false (yb_rm 5) (yb_qv X out) 0 0 7 [some (.ref (yb_ad G 176)), some (.int x1), none] [] (yb_mk s X) := by
  intro k0
  induction k0 with
  | zero => intro x1 s h; cases h
  | succ k0 ih =>
    intro x1 s h
    have h : f_X12_orders_7 (fun x1 s => l_X12_orders_7 k0 x1 s) x1 s = some out := h
    have hrc7 := ih
    unfold f_X12_orders_7 at h
    refine n_iload_n (i := 1) dX12_orders_7 rfl rfl ?_
    refine n_aload_n (i := 0) dX12_orders_8 rfl rfl ?_
    refine p_geti fl_X12_254 (sh_176 _ _) rfl dX12_orders_9 ?_
    refine n_icmp_ge 113 dX12_orders_12 (by decide) (fun c2 => ?_) (fun c2 => ?_)
    · have h := yb_ifp c2 h
      cases h
      exact n_vret dX12_orders_113 rfl (Nat.le_refl _) (Nat.le_refl _) ⟨rfl, rfl⟩
    · have h := yb_ifn c2 h
      refine n_aload_n (i := 0) dX12_orders_15 rfl rfl ?_
      refine p_getr fl_X12_66 (sh_176 _ _) rfl (rR_176_22 _ _) dX12_orders_16 ?_
      refine n_iload_n (i := 1) dX12_orders_19 rfl rfl ?_
      obtain ⟨v3, hv3, h⟩ := yb_bind h
      refine p_iald hv3 (sh_195 _ _) dX12_orders_20 ?_
      refine n_if_eq 27 dX12_orders_21 (by decide) (fun c4 => ?_) (fun c4 => ?_)
      · have h := yb_ifp c4 h
        refine n_aload_n (i := 0) dX12_orders_27 rfl rfl ?_
        refine p_getr fl_X12_197 (sh_176 _ _) rfl (rR_176_62 _ _) dX12_orders_28 ?_
        refine n_iload_n (i := 1) dX12_orders_31 rfl rfl ?_
        refine n_aload_n (i := 0) dX12_orders_32 rfl rfl ?_
        refine n_iload_n (i := 1) dX12_orders_33 rfl rfl ?_
        refine n_iconst (0 : Int32) dX12_orders_34 ic_0 ?_
        obtain ⟨q5, hq5, h⟩ := yb_bind h
        refine p_callVi (As := [.int x1, .int (0 : Int32)]) (t_X12_askedOf hq5) cv_X12_491 (sh_176 _ _) rfl rfl (Nat.le_of_ble_eq_true rfl) dX12_orders_35 (yb_rok (Nat.le_of_ble_eq_true rfl) (by decide)) ⟨rfl, rfl⟩ ⟨Nat.le_refl _, Nat.le_refl _⟩ (fun k6 => ?_)
        obtain ⟨s7, hs7, h⟩ := yb_bind h
        refine p_iast hs7 (sh_340 _ _) dX12_orders_38 ?_
        refine n_aload_n (i := 0) dX12_orders_39 rfl rfl ?_
        refine p_geti fl_X12_512 (sh_176 _ _) rfl dX12_orders_40 ?_
        refine n_istore_n (i := 2) (vs' := [some (.ref (yb_ad G 176)), some (.int x1), some (.int (s7.1 176 65))]) dX12_orders_43 rfl (Nat.le_of_ble_eq_true rfl) rfl rfl ?_
        exact p_jump (tl_X12_orders_44 hrc7 h) (And.intro rfl (And.intro rfl (And.intro rfl trivial)))
      · have h := yb_ifn c4 h
        refine n_goto 107 dX12_orders_24 (by decide) ?_
        exact p_jump (tj_X12_orders_107 hrc7 h) (And.intro rfl (And.intro rfl trivial))
set_option maxHeartbeats 4000000 in
set_option maxRecDepth 20000 in
theorem tl_X12_orders_7 {G : yb_G} {X : List (FieldType × Nat)} {out : yb_S} {x1 : Int32} {s : yb_S} (h : l_X12_orders_7 yb_N x1 s = some out) : Rn G RX12 cX12_orders 3 none false (yb_rm 5) (yb_qv X out) 0 0 7 [some (.ref (yb_ad G 176)), some (.int x1), none] [] (yb_mk s X) := t_l_X12_orders_7 _ _ _ h
set_option maxHeartbeats 4000000 in
set_option maxRecDepth 20000 in
theorem t_X12_orders {G : yb_G} {X : List (FieldType × Nat)} {s : yb_S} {out : yb_S} (h : f_X12_orders s = some out) : Ct G yX12_orders cX12_orders 3 none (yb_rm 5) [.ref (yb_ad G 176)] (yb_mk s X) (yb_qv X out) := by
  refine Ct.of (own := RX12) (ini := false) (vs := [some (.ref (yb_ad G 176)), none, none]) ⟨rfl, by decide +kernel⟩ (fun h => by cases h) (Nat.le_of_ble_eq_true rfl) rfl ?_
  unfold f_X12_orders at h
  refine n_aload_n (i := 0) dX12_orders_0 rfl rfl ?_
  refine n_iconst (0 : Int32) dX12_orders_1 ic_0 ?_
  obtain ⟨s1, hs1, h⟩ := yb_bind h
  refine p_puti hs1 fp_X12_512 (sh_176 _ _) rfl rfl rfl dX12_orders_2 ?_
  refine n_iconst (0 : Int32) dX12_orders_5 ic_0 ?_
  refine n_istore_n (i := 1) (vs' := [some (.ref (yb_ad G 176)), some (.int (0 : Int32)), none]) dX12_orders_6 rfl (Nat.le_of_ble_eq_true rfl) rfl rfl ?_
  exact p_jump (tl_X12_orders_7 h) (And.intro rfl (And.intro rfl trivial))
set_option maxHeartbeats 4000000 in
set_option maxRecDepth 20000 in
theorem t_X12_shareOf {G : yb_G} {X : List (FieldType × Nat)} {a1 : Int32} {s : yb_S} {out : (Int32 × yb_S)} (h : f_X12_shareOf a1 s = some out) : Ct G yX12_shareOf cX12_shareOf 2 (Option.some .int) (yb_rm 4) [.ref (yb_ad G 176), .int a1] (yb_mk s X) (yb_qi X out.2 out.1) := by
  refine Ct.of (own := RX12) (ini := false) (vs := [some (.ref (yb_ad G 176)), some (.int a1)]) ⟨rfl, by decide +kernel⟩ (fun h => by cases h) (Nat.le_of_ble_eq_true rfl) rfl ?_
  unfold f_X12_shareOf at h
  refine n_aload_n (i := 0) dX12_shareOf_0 rfl rfl ?_
  obtain ⟨q1, hq1, h⟩ := yb_bind h
  refine p_callVv (As := []) (t_X12_clears hq1) cv_X12_464 (sh_176 _ _) rfl rfl (Nat.le_of_ble_eq_true rfl) dX12_shareOf_1 (yb_rok (Nat.le_of_ble_eq_true rfl) (by decide)) ⟨rfl, rfl⟩ ⟨Nat.le_refl _, Nat.le_refl _⟩ (fun k2 => ?_)
  refine n_aload_n (i := 0) dX12_shareOf_4 rfl rfl ?_
  refine p_getr fl_X12_188 (sh_176 _ _) rfl (rR_176_59 _ _) dX12_shareOf_5 ?_
  refine n_bipush (12 : Int32) dX12_shareOf_8 bp_12 ?_
  refine n_aload_n (i := 0) dX12_shareOf_10 rfl rfl ?_
  refine p_getr fl_X12_16 (sh_176 _ _) rfl (rR_176_2 _ _) dX12_shareOf_11 ?_
  refine n_iload_n (i := 1) dX12_shareOf_14 rfl rfl ?_
  obtain ⟨v3, hv3, h⟩ := yb_bind h
  refine p_iald hv3 (sh_179 _ _) dX12_shareOf_15 ?_
  refine n_aload_n (i := 0) dX12_shareOf_16 rfl rfl ?_
  refine n_iload_n (i := 1) dX12_shareOf_17 rfl rfl ?_
  refine n_iconst (-1 : Int32) dX12_shareOf_18 ic_m1 ?_
  obtain ⟨q4, hq4, h⟩ := yb_bind h
  refine p_callVi (As := [.int a1, .int (-1 : Int32)]) (t_X12_pupilsIn hq4) cv_X12_473 (sh_176 _ _) rfl rfl (Nat.le_of_ble_eq_true rfl) dX12_shareOf_19 (yb_rok (Nat.le_of_ble_eq_true rfl) (by decide)) ⟨rfl, rfl⟩ ⟨Nat.le_refl _, Nat.le_refl _⟩ (fun k5 => ?_)
  refine n_isub dX12_shareOf_22 ?_
  obtain ⟨s6, hs6, h⟩ := yb_bind h
  refine p_iast hs6 (sh_337 _ _) dX12_shareOf_23 ?_
  refine n_aload_n (i := 0) dX12_shareOf_24 rfl rfl ?_
  refine p_getr fl_X12_188 (sh_176 _ _) rfl (rR_176_59 _ _) dX12_shareOf_25 ?_
  refine n_bipush (15 : Int32) dX12_shareOf_28 bp_15 ?_
  refine n_aload_n (i := 0) dX12_shareOf_30 rfl rfl ?_
  refine n_iload_n (i := 1) dX12_shareOf_31 rfl rfl ?_
  obtain ⟨q7, hq7, h⟩ := yb_bind h
  refine p_callVi (As := [.int a1]) (t_X12_roomsIn hq7) cv_X12_479 (sh_176 _ _) rfl rfl (Nat.le_of_ble_eq_true rfl) dX12_shareOf_32 (yb_rok (Nat.le_of_ble_eq_true rfl) (by decide)) ⟨rfl, rfl⟩ ⟨Nat.le_refl _, Nat.le_refl _⟩ (fun k8 => ?_)
  obtain ⟨s9, hs9, h⟩ := yb_bind h
  refine p_iast hs9 (sh_337 _ _) dX12_shareOf_35 ?_
  refine n_aload_n (i := 0) dX12_shareOf_36 rfl rfl ?_
  refine n_iconst (1 : Int32) dX12_shareOf_37 ic_1 ?_
  obtain ⟨q10, hq10, h⟩ := yb_bind h
  refine p_callVi (As := [.int (1 : Int32)]) (t_X12_tells hq10) cv_X12_482 (sh_176 _ _) rfl rfl (Nat.le_of_ble_eq_true rfl) dX12_shareOf_38 (yb_rok (Nat.le_of_ble_eq_true rfl) (by decide)) ⟨rfl, rfl⟩ ⟨Nat.le_refl _, Nat.le_refl _⟩ (fun k11 => ?_)
  cases h
  exact n_iret dX12_shareOf_41 rfl rfl (Nat.le_refl _) (Nat.le_refl _) ⟨rfl, rfl⟩
set_option maxHeartbeats 4000000 in
set_option maxRecDepth 20000 in
theorem tj_X12_headsIn_32 {G : yb_G} {X : List (FieldType × Nat)} {rc4 : (Int32 → Int32 → Option Int32)} {x1 : Int32} {x3 : Int32} {y0 : Int32} {y1 : Int32} {s : yb_S} {out : Int32} (hrc4 : ∀ (x2' : Int32) (x3' : Int32), rc4 x2' x3' = some out → Rn G RX12 cX12_headsIn 4 (Option.some .int) false (yb_rm 3) (yb_qi X s out) 0 0 4 [some (.ref (yb_ad G 176)), some (.int x1), some (.int x2'), some (.int x3')] [] (yb_mk s X)) (h : j_X12_headsIn_32 rc4 x1 x3 y0 y1 s = some out) : Rn G RX12 cX12_headsIn 4 (Option.some .int) false (yb_rm 3) (yb_qi X s out) 0 0 32 [some (.ref (yb_ad G 176)), some (.int x1), none, some (.int x3)] [.int y0, .int y1] (yb_mk s X) := by
  unfold j_X12_headsIn_32 at h
  refine n_iadd dX12_headsIn_32 ?_
  refine n_istore_n (i := 2) (vs' := [some (.ref (yb_ad G 176)), some (.int x1), some (.int (y1 + y0)), some (.int x3)]) dX12_headsIn_33 rfl (Nat.le_of_ble_eq_true rfl) rfl rfl ?_
  refine n_iinc (vs' := [some (.ref (yb_ad G 176)), some (.int x1), some (.int (y1 + y0)), some (.int (x3 + (1 : Int32)))]) dX12_headsIn_34 rfl (ii_1 _) (Nat.le_of_ble_eq_true rfl) rfl rfl ?_
  refine n_goto 4 dX12_headsIn_37 (by decide) ?_
  exact p_jump (hrc4 (y1 + y0) (x3 + (1 : Int32)) h) (And.intro rfl (And.intro rfl (And.intro rfl (And.intro rfl trivial))))
set_option maxHeartbeats 4000000 in
set_option maxRecDepth 20000 in
theorem t_l_X12_headsIn_4 {G : yb_G} {X : List (FieldType × Nat)} {x1 : Int32} {s : yb_S} {out : Int32} : ∀ (k0 : Nat) (x2 : Int32) (x3 : Int32), l_X12_headsIn_4 x1 s k0 x2 x3 = some out → Rn G RX12 cX12_headsIn 4 (Option.some .int) false (yb_rm 3) (yb_qi X s out) 0 0 4 [some (.ref (yb_ad G 176)), some (.int x1), some (.int x2), some (.int x3)] [] (yb_mk s X) := by
  intro k0
  induction k0 with
  | zero => intro x2 x3 h; cases h
  | succ k0 ih =>
    intro x2 x3 h
    have h : f_X12_headsIn_4 (fun x2 x3 => l_X12_headsIn_4 x1 s k0 x2 x3) x1 s x2 x3 = some out := h
    have hrc4 := ih
    unfold f_X12_headsIn_4 at h
    refine n_iload_n (i := 3) dX12_headsIn_4 rfl rfl ?_
    refine n_aload_n (i := 0) dX12_headsIn_5 rfl rfl ?_
    refine p_geti fl_X12_254 (sh_176 _ _) rfl dX12_headsIn_6 ?_
    refine n_icmp_ge 40 dX12_headsIn_9 (by decide) (fun c1 => ?_) (fun c1 => ?_)
    · have h := yb_ifp c1 h
      refine n_iload_n (i := 2) dX12_headsIn_40 rfl rfl ?_
      cases h
      exact n_iret dX12_headsIn_41 rfl rfl (Nat.le_refl _) (Nat.le_refl _) ⟨rfl, rfl⟩
    · have h := yb_ifn c1 h
      refine n_iload_n (i := 2) dX12_headsIn_12 rfl rfl ?_
      refine n_aload_n (i := 0) dX12_headsIn_13 rfl rfl ?_
      refine n_iload_n (i := 3) dX12_headsIn_14 rfl rfl ?_
      obtain ⟨q2, hq2, h⟩ := yb_bind h
      refine p_callVi (As := [.int x3]) (t_X12_townFor hq2) cv_X12_458 (sh_176 _ _) rfl rfl (Nat.le_of_ble_eq_true rfl) dX12_headsIn_15 (yb_rok (Nat.le_of_ble_eq_true rfl) (by decide)) ⟨rfl, rfl⟩ ⟨Nat.le_refl _, Nat.le_refl _⟩ (fun k3 => ?_)
      refine n_iload_n (i := 1) dX12_headsIn_18 rfl rfl ?_
      refine n_icmp_ne 31 dX12_headsIn_19 (by decide) (fun c4 => ?_) (fun c4 => ?_)
      · have h := yb_ifn c4 h
        refine n_iconst (0 : Int32) dX12_headsIn_31 ic_0 ?_
        exact p_jump (tj_X12_headsIn_32 hrc4 h) (And.intro rfl (And.intro rfl (And.intro rfl trivial)))
      · have h := yb_ifp c4 h
        refine n_aload_n (i := 0) dX12_headsIn_22 rfl rfl ?_
        refine p_getr fl_X12_48 (sh_176 _ _) rfl (rR_176_16 _ _) dX12_headsIn_23 ?_
        refine n_iload_n (i := 3) dX12_headsIn_26 rfl rfl ?_
        obtain ⟨v5, hv5, h⟩ := yb_bind h
        refine p_iald hv5 (sh_189 _ _) dX12_headsIn_27 ?_
        refine n_goto 32 dX12_headsIn_28 (by decide) ?_
        exact p_jump (tj_X12_headsIn_32 hrc4 h) (And.intro rfl (And.intro rfl (And.intro rfl trivial)))
set_option maxHeartbeats 4000000 in
set_option maxRecDepth 20000 in
theorem tl_X12_headsIn_4 {G : yb_G} {X : List (FieldType × Nat)} {x1 : Int32} {s : yb_S} {out : Int32} {x2 : Int32} {x3 : Int32} (h : l_X12_headsIn_4 x1 s yb_N x2 x3 = some out) : Rn G RX12 cX12_headsIn 4 (Option.some .int) false (yb_rm 3) (yb_qi X s out) 0 0 4 [some (.ref (yb_ad G 176)), some (.int x1), some (.int x2), some (.int x3)] [] (yb_mk s X) := t_l_X12_headsIn_4 _ _ _ h
set_option maxHeartbeats 4000000 in
set_option maxRecDepth 20000 in
theorem t_X12_headsIn {G : yb_G} {X : List (FieldType × Nat)} {a1 : Int32} {s : yb_S} {out : Int32} (h : f_X12_headsIn a1 s = some out) : Ct G yX12_headsIn cX12_headsIn 4 (Option.some .int) (yb_rm 3) [.ref (yb_ad G 176), .int a1] (yb_mk s X) (yb_qi X s out) := by
  refine Ct.of (own := RX12) (ini := false) (vs := [some (.ref (yb_ad G 176)), some (.int a1), none, none]) ⟨rfl, by decide +kernel⟩ (fun h => by cases h) (Nat.le_of_ble_eq_true rfl) rfl ?_
  unfold f_X12_headsIn at h
  refine n_iconst (0 : Int32) dX12_headsIn_0 ic_0 ?_
  refine n_istore_n (i := 2) (vs' := [some (.ref (yb_ad G 176)), some (.int a1), some (.int (0 : Int32)), none]) dX12_headsIn_1 rfl (Nat.le_of_ble_eq_true rfl) rfl rfl ?_
  refine n_iconst (0 : Int32) dX12_headsIn_2 ic_0 ?_
  refine n_istore_n (i := 3) (vs' := [some (.ref (yb_ad G 176)), some (.int a1), some (.int (0 : Int32)), some (.int (0 : Int32))]) dX12_headsIn_3 rfl (Nat.le_of_ble_eq_true rfl) rfl rfl ?_
  exact p_jump (tl_X12_headsIn_4 h) (And.intro rfl (And.intro rfl (And.intro rfl (And.intro rfl trivial))))
set_option maxHeartbeats 4000000 in
set_option maxRecDepth 20000 in
theorem t_X12_lackOf {G : yb_G} {X : List (FieldType × Nat)} {a1 : Int32} {s : yb_S} {out : (Int32 × yb_S)} (h : f_X12_lackOf a1 s = some out) : Ct G yX12_lackOf cX12_lackOf 2 (Option.some .int) (yb_rm 5) [.ref (yb_ad G 176), .int a1] (yb_mk s X) (yb_qi X out.2 out.1) := by
  refine Ct.of (own := RX12) (ini := false) (vs := [some (.ref (yb_ad G 176)), some (.int a1)]) ⟨rfl, by decide +kernel⟩ (fun h => by cases h) (Nat.le_of_ble_eq_true rfl) rfl ?_
  unfold f_X12_lackOf at h
  refine n_aload_n (i := 0) dX12_lackOf_0 rfl rfl ?_
  refine n_iload_n (i := 1) dX12_lackOf_1 rfl rfl ?_
  obtain ⟨q1, hq1, h⟩ := yb_bind h
  refine p_callVi (As := [.int a1]) (t_X12_shareOf hq1) cv_X12_485 (sh_176 _ _) rfl rfl (Nat.le_of_ble_eq_true rfl) dX12_lackOf_2 (yb_rok (Nat.le_of_ble_eq_true rfl) (by decide)) ⟨rfl, rfl⟩ ⟨Nat.le_refl _, Nat.le_refl _⟩ (fun k2 => ?_)
  refine n_aload_n (i := 0) dX12_lackOf_5 rfl rfl ?_
  refine n_iload_n (i := 1) dX12_lackOf_6 rfl rfl ?_
  obtain ⟨q3, hq3, h⟩ := yb_bind h
  refine p_callVi (As := [.int a1]) (t_X12_headsIn hq3) cv_X12_488 (sh_176 _ _) rfl rfl (Nat.le_of_ble_eq_true rfl) dX12_lackOf_7 (yb_rok (Nat.le_of_ble_eq_true rfl) (by decide)) ⟨rfl, rfl⟩ ⟨Nat.le_refl _, Nat.le_refl _⟩ (fun k4 => ?_)
  refine n_isub dX12_lackOf_10 ?_
  cases h
  exact n_iret dX12_lackOf_11 rfl rfl (Nat.le_refl _) (Nat.le_refl _) ⟨rfl, rfl⟩
set_option maxHeartbeats 4000000 in
set_option maxRecDepth 20000 in
theorem tj_X12_homeFor_96 {G : yb_G} {X : List (FieldType × Nat)} {rc7 : (Int32 → Int32 → Int32 → yb_S → Option (Int32 × yb_S))} {x1 : Int32} {x2 : Int32} {x3 : Int32} {x4 : Int32} {s : yb_S} {out : (Int32 × yb_S)} (hrc7 : ∀ (x2' : Int32) (x3' : Int32) (x4' : Int32) (s' : yb_S), rc7 x2' x3' x4' s' = some out → Rn G RX12 cX12_homeFor 7 (Option.some .int) false (yb_rm 9) (yb_qi X out.2 out.1) 0 0 7 [some (.ref (yb_ad G 176)), some (.int x1), some (.int x2'), some (.int x3'), some (.int x4'), none, none] [] (yb_mk s' X)) (h : j_X12_homeFor_96 rc7 x1 x2 x3 x4 s = some out) : Rn G RX12 cX12_homeFor 7 (Option.some .int) false (yb_rm 9) (yb_qi X out.2 out.1) 0 0 96 [some (.ref (yb_ad G 176)), some (.int x1), some (.int x2), some (.int x3), some (.int x4), none, none] [] (yb_mk s X) := by
  unfold j_X12_homeFor_96 at h
  refine n_iinc (vs' := [some (.ref (yb_ad G 176)), some (.int x1), some (.int x2), some (.int x3), some (.int (x4 + (1 : Int32))), none, none]) dX12_homeFor_96 rfl (ii_1 _) (Nat.le_of_ble_eq_true rfl) rfl rfl ?_
  refine n_goto 7 dX12_homeFor_99 (by decide) ?_
  exact p_jump (hrc7 x2 x3 (x4 + (1 : Int32)) s h) (And.intro rfl (And.intro rfl (And.intro rfl (And.intro rfl (And.intro rfl trivial)))))
set_option maxHeartbeats 4000000 in
set_option maxRecDepth 20000 in
theorem tj_X12_homeFor_90 {G : yb_G} {X : List (FieldType × Nat)} {rc7 : (Int32 → Int32 → Int32 → yb_S → Option (Int32 × yb_S))} {x1 : Int32} {x4 : Int32} {x6 : Int32} {s : yb_S} {out : (Int32 × yb_S)} (hrc7 : ∀ (x2' : Int32) (x3' : Int32) (x4' : Int32) (s' : yb_S), rc7 x2' x3' x4' s' = some out → Rn G RX12 cX12_homeFor 7 (Option.some .int) false (yb_rm 9) (yb_qi X out.2 out.1) 0 0 7 [some (.ref (yb_ad G 176)), some (.int x1), some (.int x2'), some (.int x3'), some (.int x4'), none, none] [] (yb_mk s' X)) (h : j_X12_homeFor_90 rc7 x1 x4 x6 s = some out) : Rn G RX12 cX12_homeFor 7 (Option.some .int) false (yb_rm 9) (yb_qi X out.2 out.1) 0 0 90 [some (.ref (yb_ad G 176)), some (.int x1), none, none, some (.int x4), none, some (.int x6)] [] (yb_mk s X) := by
  unfold j_X12_homeFor_90 at h
  refine n_iload dX12_homeFor_90 rfl ?_
  refine n_istore_n (i := 2) (vs' := [some (.ref (yb_ad G 176)), some (.int x1), some (.int x4), none, some (.int x4), none, some (.int x6)]) dX12_homeFor_92 rfl (Nat.le_of_ble_eq_true rfl) rfl rfl ?_
  refine n_iload dX12_homeFor_93 rfl ?_
  refine n_istore_n (i := 3) (vs' := [some (.ref (yb_ad G 176)), some (.int x1), some (.int x4), some (.int x6), some (.int x4), none, some (.int x6)]) dX12_homeFor_95 rfl (Nat.le_of_ble_eq_true rfl) rfl rfl ?_
  exact p_jump (tj_X12_homeFor_96 hrc7 h) (And.intro rfl (And.intro rfl (And.intro rfl (And.intro rfl (And.intro rfl trivial)))))
set_option maxHeartbeats 4000000 in
set_option maxRecDepth 20000 in
theorem tj_X12_homeFor_66 {G : yb_G} {X : List (FieldType × Nat)} {rc7 : (Int32 → Int32 → Int32 → yb_S → Option (Int32 × yb_S))} {x1 : Int32} {x2 : Int32} {x3 : Int32} {x4 : Int32} {x5 : Int32} {y0 : Int32} {y1 : Int32} {s : yb_S} {out : (Int32 × yb_S)} (hrc7 : ∀ (x2' : Int32) (x3' : Int32) (x4' : Int32) (s' : yb_S), rc7 x2' x3' x4' s' = some out → Rn G RX12 cX12_homeFor 7 (Option.some .int) false (yb_rm 9) (yb_qi X out.2 out.1) 0 0 7 [some (.ref (yb_ad G 176)), some (.int x1), some (.int x2'), some (.int x3'), some (.int x4'), none, none] [] (yb_mk s' X)) (h : j_X12_homeFor_66 rc7 x1 x2 x3 x4 x5 y0 y1 s = some out) : Rn G RX12 cX12_homeFor 7 (Option.some .int) false (yb_rm 9) (yb_qi X out.2 out.1) 0 0 66 [some (.ref (yb_ad G 176)), some (.int x1), some (.int x2), some (.int x3), some (.int x4), some (.int x5), none] [.int y0, .int y1] (yb_mk s X) := by
  unfold j_X12_homeFor_66 at h
  refine n_iadd dX12_homeFor_66 ?_
  refine n_aload_n (i := 0) dX12_homeFor_67 rfl rfl ?_
  refine n_iload dX12_homeFor_68 rfl ?_
  obtain ⟨q10, hq10, h⟩ := yb_bind h
  refine p_callVi (As := [.int x5]) (t_X12_lackOf hq10) cv_X12_494 (sh_176 _ _) rfl rfl (Nat.le_of_ble_eq_true rfl) dX12_homeFor_70 (yb_rok (Nat.le_of_ble_eq_true rfl) (by decide)) ⟨rfl, rfl⟩ ⟨Nat.le_refl _, Nat.le_refl _⟩ (fun k11 => ?_)
  refine n_iadd dX12_homeFor_73 ?_
  refine n_istore (i := 6) (vs' := [some (.ref (yb_ad G 176)), some (.int x1), some (.int x2), some (.int x3), some (.int x4), some (.int x5), some (.int ((y1 + y0) + q10.1))]) dX12_homeFor_74 (Nat.le_of_ble_eq_true rfl) rfl rfl ?_
  refine n_iload_n (i := 2) dX12_homeFor_76 rfl rfl ?_
  refine n_iconst (-1 : Int32) dX12_homeFor_77 ic_m1 ?_
  refine n_icmp_eq 90 dX12_homeFor_78 (by decide) (fun c12 => ?_) (fun c12 => ?_)
  · have h := yb_ifp c12 h
    exact p_jump (tj_X12_homeFor_90 hrc7 h) (And.intro rfl (And.intro rfl (And.intro rfl (And.intro rfl trivial))))
  · have h := yb_ifn c12 h
    refine n_iload dX12_homeFor_81 rfl ?_
    refine n_iload_n (i := 3) dX12_homeFor_83 rfl rfl ?_
    refine n_icmp_gt 90 dX12_homeFor_84 (by decide) (fun c13 => ?_) (fun c13 => ?_)
    · have h := yb_ifp c13 h
      exact p_jump (tj_X12_homeFor_90 hrc7 h) (And.intro rfl (And.intro rfl (And.intro rfl (And.intro rfl trivial))))
    · have h := yb_ifn c13 h
      refine n_goto 96 dX12_homeFor_87 (by decide) ?_
      exact p_jump (tj_X12_homeFor_96 hrc7 h) (And.intro rfl (And.intro rfl (And.intro rfl (And.intro rfl (And.intro rfl trivial)))))
set_option maxHeartbeats 4000000 in
set_option maxRecDepth 20000 in
theorem t_l_X12_homeFor_7 {G : yb_G} {X : List (FieldType × Nat)} {x1 : Int32} {out : (Int32 × yb_S)} : ∀ (k0 : Nat) (x2 : Int32) (x3 : Int32) (x4 : Int32) (s : yb_S), l_X12_homeFor_7 x1 k0 x2 x3 x4 s = some out → Rn G RX12 cX12_homeFor 7 (Option.some .int) false (yb_rm 9) (yb_qi X out.2 out.1) 0 0 7 [some (.ref (yb_ad G 176)), some (.int x1), some (.int x2), some (.int x3), some (.int x4), none, none] [] (yb_mk s X) := by
  intro k0
  induction k0 with
  | zero => intro x2 x3 x4 s h; cases h
  | succ k0 ih =>
    intro x2 x3 x4 s h
    have h : f_X12_homeFor_7 (fun x2 x3 x4 s => l_X12_homeFor_7 x1 k0 x2 x3 x4 s) x1 x2 x3 x4 s = some out := h
    have hrc7 := ih
    unfold f_X12_homeFor_7 at h
    refine n_iload dX12_homeFor_7 rfl ?_
    refine n_aload_n (i := 0) dX12_homeFor_9 rfl rfl ?_
    refine p_geti fl_X12_251 (sh_176 _ _) rfl dX12_homeFor_10 ?_
    refine n_icmp_ge 102 dX12_homeFor_13 (by decide) (fun c1 => ?_) (fun c1 => ?_)
    · have h := yb_ifp c1 h
      refine n_iload_n (i := 2) dX12_homeFor_102 rfl rfl ?_
      cases h
      exact n_iret dX12_homeFor_103 rfl rfl (Nat.le_refl _) (Nat.le_refl _) ⟨rfl, rfl⟩
    · have h := yb_ifn c1 h
      refine n_aload_n (i := 0) dX12_homeFor_16 rfl rfl ?_
      refine n_iload_n (i := 1) dX12_homeFor_17 rfl rfl ?_
      refine n_iload dX12_homeFor_18 rfl ?_
      obtain ⟨q2, hq2, h⟩ := yb_bind h
      refine p_callVi (As := [.int x1, .int x4]) (t_X12_barOf hq2) cv_X12_509 (sh_176 _ _) rfl rfl (Nat.le_of_ble_eq_true rfl) dX12_homeFor_20 (yb_rok (Nat.le_of_ble_eq_true rfl) (by decide)) ⟨rfl, rfl⟩ ⟨Nat.le_refl _, Nat.le_refl _⟩ (fun k3 => ?_)
      refine n_if_eq 29 dX12_homeFor_23 (by decide) (fun c4 => ?_) (fun c4 => ?_)
      · have h := yb_ifp c4 h
        refine n_aload_n (i := 0) dX12_homeFor_29 rfl rfl ?_
        refine p_getr fl_X12_30 (sh_176 _ _) rfl (rR_176_9 _ _) dX12_homeFor_30 ?_
        refine n_iload dX12_homeFor_33 rfl ?_
        obtain ⟨v5, hv5, h⟩ := yb_bind h
        refine p_iald hv5 (sh_183 _ _) dX12_homeFor_35 ?_
        refine n_istore (i := 5) (vs' := [some (.ref (yb_ad G 176)), some (.int x1), some (.int x2), some (.int x3), some (.int x4), some (.int v5), none]) dX12_homeFor_36 (Nat.le_of_ble_eq_true rfl) rfl rfl ?_
        refine n_sipush (1000 : Int32) dX12_homeFor_38 sp_1000 ?_
        refine n_aload_n (i := 0) dX12_homeFor_41 rfl rfl ?_
        refine n_iload_n (i := 1) dX12_homeFor_42 rfl rfl ?_
        refine n_iload dX12_homeFor_43 rfl ?_
        obtain ⟨q6, hq6, h⟩ := yb_bind h
        refine p_callVi (As := [.int x1, .int v5]) (t_X12_kinIn hq6) cv_X12_470 (sh_176 _ _) rfl rfl (Nat.le_of_ble_eq_true rfl) dX12_homeFor_45 (yb_rok (Nat.le_of_ble_eq_true rfl) (by decide)) ⟨rfl, rfl⟩ ⟨Nat.le_refl _, Nat.le_refl _⟩ (fun k7 => ?_)
        refine n_imul dX12_homeFor_48 ?_
        refine n_aload_n (i := 0) dX12_homeFor_49 rfl rfl ?_
        refine p_getr fl_X12_78 (sh_176 _ _) rfl (rR_176_26 _ _) dX12_homeFor_50 ?_
        refine n_iload_n (i := 1) dX12_homeFor_53 rfl rfl ?_
        obtain ⟨v8, hv8, h⟩ := yb_bind h
        refine p_iald hv8 (sh_199 _ _) dX12_homeFor_54 ?_
        refine n_iload dX12_homeFor_55 rfl ?_
        refine n_icmp_ne 65 dX12_homeFor_57 (by decide) (fun c9 => ?_) (fun c9 => ?_)
        · have h := yb_ifn c9 h
          refine n_iconst (0 : Int32) dX12_homeFor_65 ic_0 ?_
          exact p_jump (tj_X12_homeFor_66 hrc7 h) (And.intro rfl (And.intro rfl (And.intro rfl (And.intro rfl (And.intro rfl (And.intro rfl trivial))))))
        · have h := yb_ifp c9 h
          refine n_bipush (100 : Int32) dX12_homeFor_60 bp_100 ?_
          refine n_goto 66 dX12_homeFor_62 (by decide) ?_
          exact p_jump (tj_X12_homeFor_66 hrc7 h) (And.intro rfl (And.intro rfl (And.intro rfl (And.intro rfl (And.intro rfl (And.intro rfl trivial))))))
      · have h := yb_ifn c4 h
        refine n_goto 96 dX12_homeFor_26 (by decide) ?_
        exact p_jump (tj_X12_homeFor_96 hrc7 h) (And.intro rfl (And.intro rfl (And.intro rfl (And.intro rfl (And.intro rfl trivial)))))
set_option maxHeartbeats 4000000 in
set_option maxRecDepth 20000 in
theorem tl_X12_homeFor_7 {G : yb_G} {X : List (FieldType × Nat)} {x1 : Int32} {out : (Int32 × yb_S)} {x2 : Int32} {x3 : Int32} {x4 : Int32} {s : yb_S} (h : l_X12_homeFor_7 x1 yb_N x2 x3 x4 s = some out) : Rn G RX12 cX12_homeFor 7 (Option.some .int) false (yb_rm 9) (yb_qi X out.2 out.1) 0 0 7 [some (.ref (yb_ad G 176)), some (.int x1), some (.int x2), some (.int x3), some (.int x4), none, none] [] (yb_mk s X) := t_l_X12_homeFor_7 _ _ _ _ _ h
set_option maxHeartbeats 4000000 in
set_option maxRecDepth 20000 in
theorem t_X12_homeFor {G : yb_G} {X : List (FieldType × Nat)} {a1 : Int32} {s : yb_S} {out : (Int32 × yb_S)} (h : f_X12_homeFor a1 s = some out) : Ct G yX12_homeFor cX12_homeFor 7 (Option.some .int) (yb_rm 9) [.ref (yb_ad G 176), .int a1] (yb_mk s X) (yb_qi X out.2 out.1) := by
  refine Ct.of (own := RX12) (ini := false) (vs := [some (.ref (yb_ad G 176)), some (.int a1), none, none, none, none, none]) ⟨rfl, by decide +kernel⟩ (fun h => by cases h) (Nat.le_of_ble_eq_true rfl) rfl ?_
  unfold f_X12_homeFor at h
  refine n_iconst (-1 : Int32) dX12_homeFor_0 ic_m1 ?_
  refine n_istore_n (i := 2) (vs' := [some (.ref (yb_ad G 176)), some (.int a1), some (.int (-1 : Int32)), none, none, none, none]) dX12_homeFor_1 rfl (Nat.le_of_ble_eq_true rfl) rfl rfl ?_
  refine n_iconst (0 : Int32) dX12_homeFor_2 ic_0 ?_
  refine n_istore_n (i := 3) (vs' := [some (.ref (yb_ad G 176)), some (.int a1), some (.int (-1 : Int32)), some (.int (0 : Int32)), none, none, none]) dX12_homeFor_3 rfl (Nat.le_of_ble_eq_true rfl) rfl rfl ?_
  refine n_iconst (0 : Int32) dX12_homeFor_4 ic_0 ?_
  refine n_istore (i := 4) (vs' := [some (.ref (yb_ad G 176)), some (.int a1), some (.int (-1 : Int32)), some (.int (0 : Int32)), some (.int (0 : Int32)), none, none]) dX12_homeFor_5 (Nat.le_of_ble_eq_true rfl) rfl rfl ?_
  exact p_jump (tl_X12_homeFor_7 h) (And.intro rfl (And.intro rfl (And.intro rfl (And.intro rfl (And.intro rfl trivial)))))
set_option maxHeartbeats 4000000 in
set_option maxRecDepth 20000 in
theorem tj_X12_houses_15 {G : yb_G} {X : List (FieldType × Nat)} {x1 : Int32} {x2 : Int32} {y0 : Int32} {y1 : Int32} {s : yb_S} {out : yb_S} (h : j_X12_houses_15 x1 x2 y0 y1 s = some out) : Rn G RX12 cX12_houses 3 none false (yb_rm 1) (yb_qv X out) 0 0 15 [some (.ref (yb_ad G 176)), some (.int x1), some (.int x2)] [.int y0, .int y1, .ref (yb_ad G 195)] (yb_mk s X) := by
  unfold j_X12_houses_15 at h
  obtain ⟨s2, hs2, h⟩ := yb_bind h
  refine p_iast hs2 (sh_195 _ _) dX12_houses_15 ?_
  refine n_aload_n (i := 0) dX12_houses_16 rfl rfl ?_
  refine p_getr fl_X12_69 (sh_176 _ _) rfl (rR_176_23 _ _) dX12_houses_17 ?_
  refine n_iload_n (i := 1) dX12_houses_20 rfl rfl ?_
  refine n_iload_n (i := 2) dX12_houses_21 rfl rfl ?_
  obtain ⟨s3, hs3, h⟩ := yb_bind h
  refine p_iast hs3 (sh_196 _ _) dX12_houses_22 ?_
  cases h
  exact n_vret dX12_houses_23 rfl (Nat.le_refl _) (Nat.le_refl _) ⟨rfl, rfl⟩
set_option maxHeartbeats 4000000 in
set_option maxRecDepth 20000 in
theorem t_X12_houses {G : yb_G} {X : List (FieldType × Nat)} {a1 : Int32} {a2 : Int32} {s : yb_S} {out : yb_S} (h : f_X12_houses a1 a2 s = some out) : Ct G yX12_houses cX12_houses 3 none (yb_rm 1) [.ref (yb_ad G 176), .int a1, .int a2] (yb_mk s X) (yb_qv X out) := by
  refine Ct.of (own := RX12) (ini := false) (vs := [some (.ref (yb_ad G 176)), some (.int a1), some (.int a2)]) ⟨rfl, by decide +kernel⟩ (fun h => by cases h) (Nat.le_of_ble_eq_true rfl) rfl ?_
  unfold f_X12_houses at h
  refine n_aload_n (i := 0) dX12_houses_0 rfl rfl ?_
  refine p_getr fl_X12_66 (sh_176 _ _) rfl (rR_176_22 _ _) dX12_houses_1 ?_
  refine n_iload_n (i := 1) dX12_houses_4 rfl rfl ?_
  refine n_iload_n (i := 2) dX12_houses_5 rfl rfl ?_
  refine n_iconst (-1 : Int32) dX12_houses_6 ic_m1 ?_
  refine n_icmp_ne 14 dX12_houses_7 (by decide) (fun c1 => ?_) (fun c1 => ?_)
  · have h := yb_ifn c1 h
    refine n_iconst (1 : Int32) dX12_houses_14 ic_1 ?_
    exact p_jump (tj_X12_houses_15 h) (And.intro rfl (And.intro rfl (And.intro rfl trivial)))
  · have h := yb_ifp c1 h
    refine n_iconst (0 : Int32) dX12_houses_10 ic_0 ?_
    refine n_goto 15 dX12_houses_11 (by decide) ?_
    exact p_jump (tj_X12_houses_15 h) (And.intro rfl (And.intro rfl (And.intro rfl trivial)))
set_option maxHeartbeats 4000000 in
set_option maxRecDepth 20000 in
theorem tj_X12_places_114 {G : yb_G} {X : List (FieldType × Nat)} {rc8 : (Int32 → Int32 → yb_S → Option (Int32 × yb_S))} {x1 : Int32} {x2 : Int32} {x3 : Int32} {s : yb_S} {out : (Int32 × yb_S)} (hrc8 : ∀ (x2' : Int32) (x3' : Int32) (s' : yb_S), rc8 x2' x3' s' = some out → Rn G RX12 cX12_places 7 (Option.some .int) false (yb_rm 10) (yb_qi X out.2 out.1) 0 0 8 [some (.ref (yb_ad G 176)), some (.int x1), some (.int x2'), some (.int x3'), none, none, none] [] (yb_mk s' X)) (h : j_X12_places_114 rc8 x1 x2 x3 s = some out) : Rn G RX12 cX12_places 7 (Option.some .int) false (yb_rm 10) (yb_qi X out.2 out.1) 0 0 114 [some (.ref (yb_ad G 176)), some (.int x1), some (.int x2), some (.int x3), none, none, none] [] (yb_mk s X) := by
  unfold j_X12_places_114 at h
  refine n_iinc (vs' := [some (.ref (yb_ad G 176)), some (.int x1), some (.int x2), some (.int (x3 + (1 : Int32))), none, none, none]) dX12_places_114 rfl (ii_1 _) (Nat.le_of_ble_eq_true rfl) rfl rfl ?_
  refine n_goto 8 dX12_places_117 (by decide) ?_
  exact p_jump (hrc8 x2 (x3 + (1 : Int32)) s h) (And.intro rfl (And.intro rfl (And.intro rfl (And.intro rfl trivial))))
set_option maxHeartbeats 4000000 in
set_option maxRecDepth 20000 in
theorem tj_X12_places_103 {G : yb_G} {X : List (FieldType × Nat)} {rc8 : (Int32 → Int32 → yb_S → Option (Int32 × yb_S))} {x1 : Int32} {x2 : Int32} {x3 : Int32} {x4 : Int32} {x5 : Int32} {s : yb_S} {out : (Int32 × yb_S)} (hrc8 : ∀ (x2' : Int32) (x3' : Int32) (s' : yb_S), rc8 x2' x3' s' = some out → Rn G RX12 cX12_places 7 (Option.some .int) false (yb_rm 10) (yb_qi X out.2 out.1) 0 0 8 [some (.ref (yb_ad G 176)), some (.int x1), some (.int x2'), some (.int x3'), none, none, none] [] (yb_mk s' X)) (h : j_X12_places_103 rc8 x1 x2 x3 x4 x5 s = some out) : Rn G RX12 cX12_places 7 (Option.some .int) false (yb_rm 10) (yb_qi X out.2 out.1) 0 0 103 [some (.ref (yb_ad G 176)), some (.int x1), some (.int x2), some (.int x3), some (.int x4), some (.int x5), none] [] (yb_mk s X) := by
  unfold j_X12_places_103 at h
  refine n_aload_n (i := 0) dX12_places_103 rfl rfl ?_
  refine n_iload dX12_places_104 rfl ?_
  refine n_iload dX12_places_106 rfl ?_
  obtain ⟨q9, hq9, h⟩ := yb_bind h
  refine p_callVv (As := [.int x4, .int x5]) (t_X12_houses hq9) cv_X12_521 (sh_176 _ _) rfl rfl (Nat.le_of_ble_eq_true rfl) dX12_places_108 (yb_rok (Nat.le_of_ble_eq_true rfl) (by decide)) ⟨rfl, rfl⟩ ⟨Nat.le_refl _, Nat.le_refl _⟩ (fun k10 => ?_)
  refine n_iinc (vs' := [some (.ref (yb_ad G 176)), some (.int x1), some (.int (x2 + (1 : Int32))), some (.int x3), some (.int x4), some (.int x5), none]) dX12_places_111 rfl (ii_1 _) (Nat.le_of_ble_eq_true rfl) rfl rfl ?_
  exact p_jump (tj_X12_places_114 hrc8 h) (And.intro rfl (And.intro rfl (And.intro rfl (And.intro rfl trivial))))
set_option maxHeartbeats 4000000 in
set_option maxRecDepth 20000 in
theorem tj_X12_places_97 {G : yb_G} {X : List (FieldType × Nat)} {rc8 : (Int32 → Int32 → yb_S → Option (Int32 × yb_S))} {rc44 : (Int32 → yb_S → Option (Int32 × yb_S))} {x1 : Int32} {x2 : Int32} {x3 : Int32} {x4 : Int32} {x5 : Int32} {x6 : Int32} {s : yb_S} {out : (Int32 × yb_S)} (hrc8 : ∀ (x2' : Int32) (x3' : Int32) (s' : yb_S), rc8 x2' x3' s' = some out → Rn G RX12 cX12_places 7 (Option.some .int) false (yb_rm 10) (yb_qi X out.2 out.1) 0 0 8 [some (.ref (yb_ad G 176)), some (.int x1), some (.int x2'), some (.int x3'), none, none, none] [] (yb_mk s' X)) (hrc44 : ∀ (x6' : Int32) (s' : yb_S), rc44 x6' s' = some out → Rn G RX12 cX12_places 7 (Option.some .int) false (yb_rm 10) (yb_qi X out.2 out.1) 0 0 44 [some (.ref (yb_ad G 176)), some (.int x1), some (.int x2), some (.int x3), some (.int x4), some (.int x5), some (.int x6')] [] (yb_mk s' X)) (h : j_X12_places_97 rc8 rc44 x1 x2 x3 x4 x5 x6 s = some out) : Rn G RX12 cX12_places 7 (Option.some .int) false (yb_rm 10) (yb_qi X out.2 out.1) 0 0 97 [some (.ref (yb_ad G 176)), some (.int x1), some (.int x2), some (.int x3), some (.int x4), some (.int x5), some (.int x6)] [] (yb_mk s X) := by
  unfold j_X12_places_97 at h
  refine n_iinc (vs' := [some (.ref (yb_ad G 176)), some (.int x1), some (.int x2), some (.int x3), some (.int x4), some (.int x5), some (.int (x6 + (1 : Int32)))]) dX12_places_97 rfl (ii_1 _) (Nat.le_of_ble_eq_true rfl) rfl rfl ?_
  refine n_goto 44 dX12_places_100 (by decide) ?_
  exact p_jump (hrc44 (x6 + (1 : Int32)) s h) (And.intro rfl (And.intro rfl (And.intro rfl (And.intro rfl (And.intro rfl (And.intro rfl (And.intro rfl trivial)))))))
set_option maxHeartbeats 4000000 in
set_option maxRecDepth 20000 in
theorem t_l_X12_places_44 {G : yb_G} {X : List (FieldType × Nat)} {rc8 : (Int32 → Int32 → yb_S → Option (Int32 × yb_S))} {x1 : Int32} {x2 : Int32} {x3 : Int32} {x4 : Int32} {x5 : Int32} {out : (Int32 × yb_S)} (hrc8 : ∀ (x2' : Int32) (x3' : Int32) (s' : yb_S), rc8 x2' x3' s' = some out → Rn G RX12 cX12_places 7 (Option.some .int) false (yb_rm 10) (yb_qi X out.2 out.1) 0 0 8 [some (.ref (yb_ad G 176)), some (.int x1), some (.int x2'), some (.int x3'), none, none, none] [] (yb_mk s' X)) : ∀ (k0 : Nat) (x6 : Int32) (s : yb_S), l_X12_places_44 rc8 x1 x2 x3 x4 x5 k0 x6 s = some out → Rn G RX12 cX12_places 7 (Option.some .int) false (yb_rm 10) (yb_qi X out.2 out.1) 0 0 44 [some (.ref (yb_ad G 176)), some (.int x1), some (.int x2), some (.int x3), some (.int x4), some (.int x5), some (.int x6)] [] (yb_mk s X) := by
  intro k0
  induction k0 with
  | zero => intro x6 s h; cases h
  | succ k0 ih =>
    intro x6 s h
    have h : f_X12_places_44 rc8 (fun x6 s => l_X12_places_44 rc8 x1 x2 x3 x4 x5 k0 x6 s) x1 x2 x3 x4 x5 x6 s = some out := h
    have hrc44 := ih
    unfold f_X12_places_44 at h
    refine n_iload dX12_places_44 rfl ?_
    refine n_iload_n (i := 3) dX12_places_46 rfl rfl ?_
    refine n_icmp_ge 103 dX12_places_47 (by decide) (fun c8 => ?_) (fun c8 => ?_)
    · have h := yb_ifp c8 h
      exact p_jump (tj_X12_places_103 hrc8 h) (And.intro rfl (And.intro rfl (And.intro rfl (And.intro rfl (And.intro rfl (And.intro rfl trivial))))))
    · have h := yb_ifn c8 h
      refine n_iload_n (i := 1) dX12_places_50 rfl rfl ?_
      refine n_if_eq 103 dX12_places_51 (by decide) (fun c11 => ?_) (fun c11 => ?_)
      · have h := yb_ifp c11 h
        exact p_jump (tj_X12_places_103 hrc8 h) (And.intro rfl (And.intro rfl (And.intro rfl (And.intro rfl (And.intro rfl (And.intro rfl trivial))))))
      · have h := yb_ifn c11 h
        refine n_aload_n (i := 0) dX12_places_54 rfl rfl ?_
        refine p_getr fl_X12_66 (sh_176 _ _) rfl (rR_176_22 _ _) dX12_places_55 ?_
        refine n_aload_n (i := 0) dX12_places_58 rfl rfl ?_
        refine p_getr fl_X12_194 (sh_176 _ _) rfl (rR_176_61 _ _) dX12_places_59 ?_
        refine n_iload dX12_places_62 rfl ?_
        obtain ⟨v12, hv12, h⟩ := yb_bind h
        refine p_iald hv12 (sh_339 _ _) dX12_places_64 ?_
        obtain ⟨v13, hv13, h⟩ := yb_bind h
        refine p_iald hv13 (sh_195 _ _) dX12_places_65 ?_
        refine n_if_ne 97 dX12_places_66 (by decide) (fun c14 => ?_) (fun c14 => ?_)
        · have h := yb_ifn c14 h
          exact p_jump (tj_X12_places_97 hrc8 hrc44 h) (And.intro rfl (And.intro rfl (And.intro rfl (And.intro rfl (And.intro rfl (And.intro rfl (And.intro rfl trivial)))))))
        · have h := yb_ifp c14 h
          refine n_aload_n (i := 0) dX12_places_69 rfl rfl ?_
          refine p_getr fl_X12_200 (sh_176 _ _) rfl (rR_176_63 _ _) dX12_places_70 ?_
          refine n_aload_n (i := 0) dX12_places_73 rfl rfl ?_
          refine p_getr fl_X12_194 (sh_176 _ _) rfl (rR_176_61 _ _) dX12_places_74 ?_
          refine n_iload dX12_places_77 rfl ?_
          obtain ⟨v15, hv15, h⟩ := yb_bind h
          refine p_iald hv15 (sh_339 _ _) dX12_places_79 ?_
          obtain ⟨r16, hr16, h⟩ := yb_bind h
          refine p_aald hr16 (sh_341 _ _) (by decide) rfl (rF_341 _ _) dX12_places_80 ?_
          refine n_iload dX12_places_81 rfl ?_
          refine n_aload_n (i := 0) dX12_places_83 rfl rfl ?_
          refine n_aload_n (i := 0) dX12_places_84 rfl rfl ?_
          refine p_getr fl_X12_194 (sh_176 _ _) rfl (rR_176_61 _ _) dX12_places_85 ?_
          refine n_iload dX12_places_88 rfl ?_
          obtain ⟨v17, hv17, h⟩ := yb_bind h
          refine p_iald hv17 (sh_339 _ _) dX12_places_90 ?_
          refine n_iload dX12_places_91 rfl ?_
          obtain ⟨q18, hq18, h⟩ := yb_bind h
          refine p_callVi (As := [.int v17, .int x5]) (t_X12_barOf hq18) cv_X12_509 (sh_176 _ _) rfl rfl (Nat.le_of_ble_eq_true rfl) dX12_places_93 (yb_rok (Nat.le_of_ble_eq_true rfl) (by decide)) ⟨rfl, rfl⟩ ⟨Nat.le_refl _, Nat.le_refl _⟩ (fun k19 => ?_)
          obtain ⟨s20, hs20, h⟩ := yb_bind h
          refine p_iast hs20 (shF_341 hr16 _ _) dX12_places_96 ?_
          exact p_jump (tj_X12_places_97 hrc8 hrc44 h) (And.intro rfl (And.intro rfl (And.intro rfl (And.intro rfl (And.intro rfl (And.intro rfl (And.intro rfl trivial)))))))
set_option maxHeartbeats 4000000 in
set_option maxRecDepth 20000 in
theorem tl_X12_places_44 {G : yb_G} {X : List (FieldType × Nat)} {rc8 : (Int32 → Int32 → yb_S → Option (Int32 × yb_S))} {x1 : Int32} {x2 : Int32} {x3 : Int32} {x4 : Int32} {x5 : Int32} {out : (Int32 × yb_S)} (hrc8 : ∀ (x2' : Int32) (x3' : Int32) (s' : yb_S), rc8 x2' x3' s' = some out → Rn G RX12 cX12_places 7 (Option.some .int) false (yb_rm 10) (yb_qi X out.2 out.1) 0 0 8 [some (.ref (yb_ad G 176)), some (.int x1), some (.int x2'), some (.int x3'), none, none, none] [] (yb_mk s' X)) {x6 : Int32} {s : yb_S} (h : l_X12_places_44 rc8 x1 x2 x3 x4 x5 yb_N x6 s = some out) : Rn G RX12 cX12_places 7 (Option.some .int) false (yb_rm 10) (yb_qi X out.2 out.1) 0 0 44 [some (.ref (yb_ad G 176)), some (.int x1), some (.int x2), some (.int x3), some (.int x4), some (.int x5), some (.int x6)] [] (yb_mk s X) := t_l_X12_places_44 hrc8 _ _ _ h
set_option maxHeartbeats 4000000 in
set_option maxRecDepth 20000 in
theorem t_l_X12_places_8 {G : yb_G} {X : List (FieldType × Nat)} {x1 : Int32} {out : (Int32 × yb_S)} : ∀ (k0 : Nat) (x2 : Int32) (x3 : Int32) (s : yb_S), l_X12_places_8 x1 k0 x2 x3 s = some out → Rn G RX12 cX12_places 7 (Option.some .int) false (yb_rm 10) (yb_qi X out.2 out.1) 0 0 8 [some (.ref (yb_ad G 176)), some (.int x1), some (.int x2), some (.int x3), none, none, none] [] (yb_mk s X) := by
  intro k0
  induction k0 with
  | zero => intro x2 x3 s h; cases h
  | succ k0 ih =>
    intro x2 x3 s h
    have h : f_X12_places_8 (fun x2 x3 s => l_X12_places_8 x1 k0 x2 x3 s) x1 x2 x3 s = some out := h
    have hrc8 := ih
    unfold f_X12_places_8 at h
    refine n_iload_n (i := 3) dX12_places_8 rfl rfl ?_
    refine n_aload_n (i := 0) dX12_places_9 rfl rfl ?_
    refine p_geti fl_X12_512 (sh_176 _ _) rfl dX12_places_10 ?_
    refine n_icmp_ge 120 dX12_places_13 (by decide) (fun c3 => ?_) (fun c3 => ?_)
    · have h := yb_ifp c3 h
      refine n_iload_n (i := 2) dX12_places_120 rfl rfl ?_
      cases h
      exact n_iret dX12_places_121 rfl rfl (Nat.le_refl _) (Nat.le_refl _) ⟨rfl, rfl⟩
    · have h := yb_ifn c3 h
      refine n_aload_n (i := 0) dX12_places_16 rfl rfl ?_
      refine p_getr fl_X12_194 (sh_176 _ _) rfl (rR_176_61 _ _) dX12_places_17 ?_
      refine n_iload_n (i := 3) dX12_places_20 rfl rfl ?_
      obtain ⟨v4, hv4, h⟩ := yb_bind h
      refine p_iald hv4 (sh_339 _ _) dX12_places_21 ?_
      refine n_istore (i := 4) (vs' := [some (.ref (yb_ad G 176)), some (.int x1), some (.int x2), some (.int x3), some (.int v4), none, none]) dX12_places_22 (Nat.le_of_ble_eq_true rfl) rfl rfl ?_
      refine n_aload_n (i := 0) dX12_places_24 rfl rfl ?_
      refine n_iload dX12_places_25 rfl ?_
      obtain ⟨q5, hq5, h⟩ := yb_bind h
      refine p_callVi (As := [.int v4]) (t_X12_homeFor hq5) cv_X12_518 (sh_176 _ _) rfl rfl (Nat.le_of_ble_eq_true rfl) dX12_places_27 (yb_rok (Nat.le_of_ble_eq_true rfl) (by decide)) ⟨rfl, rfl⟩ ⟨Nat.le_refl _, Nat.le_refl _⟩ (fun k6 => ?_)
      refine n_istore (i := 5) (vs' := [some (.ref (yb_ad G 176)), some (.int x1), some (.int x2), some (.int x3), some (.int v4), some (.int q5.1), none]) dX12_places_30 (Nat.le_of_ble_eq_true rfl) rfl rfl ?_
      refine n_iload dX12_places_32 rfl ?_
      refine n_iconst (-1 : Int32) dX12_places_34 ic_m1 ?_
      refine n_icmp_ne 41 dX12_places_35 (by decide) (fun c7 => ?_) (fun c7 => ?_)
      · have h := yb_ifn c7 h
        refine n_iconst (0 : Int32) dX12_places_41 ic_0 ?_
        refine n_istore (i := 6) (vs' := [some (.ref (yb_ad G 176)), some (.int x1), some (.int x2), some (.int x3), some (.int v4), some (.int q5.1), some (.int (0 : Int32))]) dX12_places_42 (Nat.le_of_ble_eq_true rfl) rfl rfl ?_
        exact p_jump (tl_X12_places_44 hrc8 h) (And.intro rfl (And.intro rfl (And.intro rfl (And.intro rfl (And.intro rfl (And.intro rfl (And.intro rfl trivial)))))))
      · have h := yb_ifp c7 h
        refine n_goto 114 dX12_places_38 (by decide) ?_
        exact p_jump (tj_X12_places_114 hrc8 h) (And.intro rfl (And.intro rfl (And.intro rfl (And.intro rfl trivial))))
set_option maxHeartbeats 4000000 in
set_option maxRecDepth 20000 in
theorem tl_X12_places_8 {G : yb_G} {X : List (FieldType × Nat)} {x1 : Int32} {out : (Int32 × yb_S)} {x2 : Int32} {x3 : Int32} {s : yb_S} (h : l_X12_places_8 x1 yb_N x2 x3 s = some out) : Rn G RX12 cX12_places 7 (Option.some .int) false (yb_rm 10) (yb_qi X out.2 out.1) 0 0 8 [some (.ref (yb_ad G 176)), some (.int x1), some (.int x2), some (.int x3), none, none, none] [] (yb_mk s X) := t_l_X12_places_8 _ _ _ _ h
set_option maxHeartbeats 4000000 in
set_option maxRecDepth 20000 in
theorem t_X12_places {G : yb_G} {X : List (FieldType × Nat)} {a1 : Int32} {s : yb_S} {out : (Int32 × yb_S)} (h : f_X12_places a1 s = some out) : Ct G yX12_places cX12_places 7 (Option.some .int) (yb_rm 10) [.ref (yb_ad G 176), .int a1] (yb_mk s X) (yb_qi X out.2 out.1) := by
  refine Ct.of (own := RX12) (ini := false) (vs := [some (.ref (yb_ad G 176)), some (.int a1), none, none, none, none, none]) ⟨rfl, by decide +kernel⟩ (fun h => by cases h) (Nat.le_of_ble_eq_true rfl) rfl ?_
  unfold f_X12_places at h
  refine n_aload_n (i := 0) dX12_places_0 rfl rfl ?_
  obtain ⟨q1, hq1, h⟩ := yb_bind h
  refine p_callVv (As := []) (t_X12_orders hq1) cv_X12_515 (sh_176 _ _) rfl rfl (Nat.le_of_ble_eq_true rfl) dX12_places_1 (yb_rok (Nat.le_of_ble_eq_true rfl) (by decide)) ⟨rfl, rfl⟩ ⟨Nat.le_refl _, Nat.le_refl _⟩ (fun k2 => ?_)
  refine n_iconst (0 : Int32) dX12_places_4 ic_0 ?_
  refine n_istore_n (i := 2) (vs' := [some (.ref (yb_ad G 176)), some (.int a1), some (.int (0 : Int32)), none, none, none, none]) dX12_places_5 rfl (Nat.le_of_ble_eq_true rfl) rfl rfl ?_
  refine n_iconst (0 : Int32) dX12_places_6 ic_0 ?_
  refine n_istore_n (i := 3) (vs' := [some (.ref (yb_ad G 176)), some (.int a1), some (.int (0 : Int32)), some (.int (0 : Int32)), none, none, none]) dX12_places_7 rfl (Nat.le_of_ble_eq_true rfl) rfl rfl ?_
  exact p_jump (tl_X12_places_8 h) (And.intro rfl (And.intro rfl (And.intro rfl (And.intro rfl trivial))))
set_option maxHeartbeats 4000000 in
set_option maxRecDepth 20000 in
theorem tj_X12_beside_104 {G : yb_G} {X : List (FieldType × Nat)} {Lx : Nat} (hLx : X.length ≤ Lx) {rc81 : (Int32 → yb_S → Option (Int32 × yb_S))} {x2 : Nat} {x4 : Int32} {x5 : Int32} {x6 : Int32} {s : yb_S} {out : (Int32 × yb_S)} (hrc81 : ∀ (x6' : Int32) (s' : yb_S), rc81 x6' s' = some out → Rn G RX12 cX12_beside 7 (Option.some .int) false (yb_rmA 11 1 24) (yb_qa Lx out) 1 24 81 [some (.ref (yb_ad G 176)), none, some (.ref (yb_ad G x2)), none, some (.int x4), some (.int x5), some (.int x6')] [] (yb_mk s' X)) (hx2 : ∀ s : yb_S, (yb_mk s X).2.2.2.1 x2 = some (.inr (.int, 24))) (h : j_X12_beside_104 rc81 x2 x4 x5 x6 s = some out) : Rn G RX12 cX12_beside 7 (Option.some .int) false (yb_rmA 11 1 24) (yb_qa Lx out) 1 24 104 [some (.ref (yb_ad G 176)), none, some (.ref (yb_ad G x2)), none, some (.int x4), some (.int x5), some (.int x6)] [] (yb_mk s X) := by
  unfold j_X12_beside_104 at h
  refine n_iinc (vs' := [some (.ref (yb_ad G 176)), none, some (.ref (yb_ad G x2)), none, some (.int x4), some (.int x5), some (.int (x6 + (1 : Int32)))]) dX12_beside_104 rfl (ii_1 _) (Nat.le_of_ble_eq_true rfl) rfl rfl ?_
  refine n_goto 81 dX12_beside_107 (by decide) ?_
  exact p_jump (hrc81 (x6 + (1 : Int32)) s h) (And.intro rfl (And.intro rfl (And.intro rfl (And.intro rfl (And.intro rfl trivial)))))
set_option maxHeartbeats 4000000 in
set_option maxRecDepth 20000 in
theorem t_l_X12_beside_81 {G : yb_G} {X : List (FieldType × Nat)} {Lx : Nat} (hLx : X.length ≤ Lx) {x2 : Nat} {x4 : Int32} {x5 : Int32} {out : (Int32 × yb_S)} (hx2 : ∀ s : yb_S, (yb_mk s X).2.2.2.1 x2 = some (.inr (.int, 24))) : ∀ (k0 : Nat) (x6 : Int32) (s : yb_S), l_X12_beside_81 x2 x4 x5 k0 x6 s = some out → Rn G RX12 cX12_beside 7 (Option.some .int) false (yb_rmA 11 1 24) (yb_qa Lx out) 1 24 81 [some (.ref (yb_ad G 176)), none, some (.ref (yb_ad G x2)), none, some (.int x4), some (.int x5), some (.int x6)] [] (yb_mk s X) := by
  intro k0
  induction k0 with
  | zero => intro x6 s h; cases h
  | succ k0 ih =>
    intro x6 s h
    have h : f_X12_beside_81 (fun x6 s => l_X12_beside_81 x2 x4 x5 k0 x6 s) x2 x4 x5 x6 s = some out := h
    have hrc81 := ih
    unfold f_X12_beside_81 at h
    refine n_iload dX12_beside_81 rfl ?_
    refine n_aload_n (i := 0) dX12_beside_83 rfl rfl ?_
    refine p_geti fl_X12_254 (sh_176 _ _) rfl dX12_beside_84 ?_
    refine n_icmp_ge 110 dX12_beside_87 (by decide) (fun c13 => ?_) (fun c13 => ?_)
    · have h := yb_ifp c13 h
      refine n_iload dX12_beside_110 rfl ?_
      refine n_if_ne 119 dX12_beside_112 (by decide) (fun c14 => ?_) (fun c14 => ?_)
      · have h := yb_ifn c14 h
        refine n_iload dX12_beside_119 rfl ?_
        cases h
        exact n_iret dX12_beside_121 rfl rfl (Nat.le_of_ble_eq_true rfl) (Nat.le_of_ble_eq_true rfl) ⟨rfl, _, rfl, hLx⟩
      · have h := yb_ifp c14 h
        refine n_iconst (0 : Int32) dX12_beside_115 ic_0 ?_
        refine n_goto 121 dX12_beside_116 (by decide) ?_
        cases h
        exact n_iret dX12_beside_121 rfl rfl (Nat.le_of_ble_eq_true rfl) (Nat.le_of_ble_eq_true rfl) ⟨rfl, _, rfl, hLx⟩
    · have h := yb_ifn c13 h
      refine n_aload_n (i := 2) dX12_beside_90 rfl rfl ?_
      refine n_iload dX12_beside_91 rfl ?_
      obtain ⟨v15, hv15, h⟩ := yb_bind h
      refine p_iald hv15 (hx2 _) dX12_beside_93 ?_
      refine n_if_ne 104 dX12_beside_94 (by decide) (fun c16 => ?_) (fun c16 => ?_)
      · have h := yb_ifn c16 h
        exact p_jump (tj_X12_beside_104 hLx hrc81 hx2 h) (And.intro rfl (And.intro rfl (And.intro rfl (And.intro rfl (And.intro rfl trivial)))))
      · have h := yb_ifp c16 h
        refine n_aload_n (i := 0) dX12_beside_97 rfl rfl ?_
        refine n_iload dX12_beside_98 rfl ?_
        refine n_iconst (-1 : Int32) dX12_beside_100 ic_m1 ?_
        obtain ⟨q17, hq17, h⟩ := yb_bind h
        refine p_callVv (As := [.int x6, .int (-1 : Int32)]) (t_X12_houses hq17) cv_X12_521 (sh_176 _ _) rfl rfl (Nat.le_of_ble_eq_true rfl) dX12_beside_101 (yb_rokA (Nat.le_of_ble_eq_true rfl) (by decide)) ⟨rfl, rfl⟩ ⟨Nat.le_of_ble_eq_true rfl, Nat.le_of_ble_eq_true rfl⟩ (fun k18 => ?_)
        exact p_jump (tj_X12_beside_104 hLx hrc81 hx2 h) (And.intro rfl (And.intro rfl (And.intro rfl (And.intro rfl (And.intro rfl trivial)))))
set_option maxHeartbeats 4000000 in
set_option maxRecDepth 20000 in
theorem tl_X12_beside_81 {G : yb_G} {X : List (FieldType × Nat)} {Lx : Nat} (hLx : X.length ≤ Lx) {x2 : Nat} {x4 : Int32} {x5 : Int32} {out : (Int32 × yb_S)} (hx2 : ∀ s : yb_S, (yb_mk s X).2.2.2.1 x2 = some (.inr (.int, 24))) {x6 : Int32} {s : yb_S} (h : l_X12_beside_81 x2 x4 x5 yb_N x6 s = some out) : Rn G RX12 cX12_beside 7 (Option.some .int) false (yb_rmA 11 1 24) (yb_qa Lx out) 1 24 81 [some (.ref (yb_ad G 176)), none, some (.ref (yb_ad G x2)), none, some (.int x4), some (.int x5), some (.int x6)] [] (yb_mk s X) := t_l_X12_beside_81 hLx hx2 _ _ _ h
set_option maxHeartbeats 4000000 in
set_option maxRecDepth 20000 in
theorem t_l_X12_beside_25 {G : yb_G} {X : List (FieldType × Nat)} {Lx : Nat} (hLx : X.length ≤ Lx) {x1 : Int32} {x2 : Nat} {out : (Int32 × yb_S)} (hx2 : ∀ s : yb_S, (yb_mk s X).2.2.2.1 x2 = some (.inr (.int, 24))) : ∀ (k0 : Nat) (x3 : Int32) (s : yb_S), l_X12_beside_25 x1 x2 k0 x3 s = some out → Rn G RX12 cX12_beside 7 (Option.some .int) false (yb_rmA 11 1 24) (yb_qa Lx out) 1 24 25 [some (.ref (yb_ad G 176)), some (.int x1), some (.ref (yb_ad G x2)), some (.int x3), none, none, none] [] (yb_mk s X) := by
  intro k0
  induction k0 with
  | zero => intro x3 s h; cases h
  | succ k0 ih =>
    intro x3 s h
    have h : f_X12_beside_25 (fun x3 s => l_X12_beside_25 x1 x2 k0 x3 s) x1 x2 x3 s = some out := h
    have hrc25 := ih
    unfold f_X12_beside_25 at h
    refine n_iload_n (i := 3) dX12_beside_25 rfl rfl ?_
    refine n_aload_n (i := 0) dX12_beside_26 rfl rfl ?_
    refine p_geti fl_X12_254 (sh_176 _ _) rfl dX12_beside_27 ?_
    refine n_icmp_ge 48 dX12_beside_30 (by decide) (fun c4 => ?_) (fun c4 => ?_)
    · have h := yb_ifp c4 h
      refine n_aload_n (i := 0) dX12_beside_48 rfl rfl ?_
      refine n_iload_n (i := 1) dX12_beside_49 rfl rfl ?_
      obtain ⟨s5, hs5, h⟩ := yb_bind h
      refine p_puti hs5 fp_X12_184 (sh_176 _ _) rfl rfl rfl dX12_beside_50 ?_
      refine n_aload_n (i := 0) dX12_beside_53 rfl rfl ?_
      obtain ⟨q6, hq6, h⟩ := yb_bind h
      refine p_callVi (As := []) (t_X12_hallHeads hq6) cv_X12_583 (sh_176 _ _) rfl rfl (Nat.le_of_ble_eq_true rfl) dX12_beside_54 (yb_rokA (Nat.le_of_ble_eq_true rfl) (by decide)) ⟨rfl, rfl⟩ ⟨Nat.le_of_ble_eq_true rfl, Nat.le_of_ble_eq_true rfl⟩ (fun k7 => ?_)
      refine n_istore_n (i := 3) (vs' := [some (.ref (yb_ad G 176)), some (.int x1), some (.ref (yb_ad G x2)), some (.int q6), none, none, none]) dX12_beside_57 rfl (Nat.le_of_ble_eq_true rfl) rfl rfl ?_
      refine n_aload_n (i := 0) dX12_beside_58 rfl rfl ?_
      refine n_iconst (0 : Int32) dX12_beside_59 ic_0 ?_
      obtain ⟨q8, hq8, h⟩ := yb_bind h
      refine p_callVi (As := [.int (0 : Int32)]) (t_X12_places hq8) cv_X12_527 (sh_176 _ _) rfl rfl (Nat.le_of_ble_eq_true rfl) dX12_beside_60 (yb_rokA (Nat.le_of_ble_eq_true rfl) (by decide)) ⟨rfl, rfl⟩ ⟨Nat.le_of_ble_eq_true rfl, Nat.le_of_ble_eq_true rfl⟩ (fun k9 => ?_)
      refine n_istore (i := 4) (vs' := [some (.ref (yb_ad G 176)), some (.int x1), some (.ref (yb_ad G x2)), some (.int q6), some (.int q8.1), none, none]) dX12_beside_63 (Nat.le_of_ble_eq_true rfl) rfl rfl ?_
      refine n_iload_n (i := 3) dX12_beside_65 rfl rfl ?_
      refine n_aload_n (i := 0) dX12_beside_66 rfl rfl ?_
      obtain ⟨q10, hq10, h⟩ := yb_bind h
      refine p_callVi (As := []) (t_X12_hallHeads hq10) cv_X12_583 (sh_176 _ _) rfl rfl (Nat.le_of_ble_eq_true rfl) dX12_beside_67 (yb_rokA (Nat.le_of_ble_eq_true rfl) (by decide)) ⟨rfl, rfl⟩ ⟨Nat.le_of_ble_eq_true rfl, Nat.le_of_ble_eq_true rfl⟩ (fun k11 => ?_)
      refine n_isub dX12_beside_70 ?_
      refine n_istore (i := 5) (vs' := [some (.ref (yb_ad G 176)), some (.int x1), some (.ref (yb_ad G x2)), some (.int q6), some (.int q8.1), some (.int (q6 - q10)), none]) dX12_beside_71 (Nat.le_of_ble_eq_true rfl) rfl rfl ?_
      refine n_aload_n (i := 0) dX12_beside_73 rfl rfl ?_
      refine n_iconst (-1 : Int32) dX12_beside_74 ic_m1 ?_
      obtain ⟨s12, hs12, h⟩ := yb_bind h
      refine p_puti hs12 fp_X12_184 (sh_176 _ _) rfl rfl rfl dX12_beside_75 ?_
      refine n_iconst (0 : Int32) dX12_beside_78 ic_0 ?_
      refine n_istore (i := 6) (vs' := [some (.ref (yb_ad G 176)), some (.int x1), some (.ref (yb_ad G x2)), some (.int q6), some (.int q8.1), some (.int (q6 - q10)), some (.int (0 : Int32))]) dX12_beside_79 (Nat.le_of_ble_eq_true rfl) rfl rfl ?_
      exact p_jump (tl_X12_beside_81 hLx hx2 h) (And.intro rfl (And.intro rfl (And.intro rfl (And.intro rfl (And.intro rfl trivial)))))
    · have h := yb_ifn c4 h
      refine n_aload_n (i := 2) dX12_beside_33 rfl rfl ?_
      refine n_iload_n (i := 3) dX12_beside_34 rfl rfl ?_
      refine n_aload_n (i := 0) dX12_beside_35 rfl rfl ?_
      refine p_getr fl_X12_66 (sh_176 _ _) rfl (rR_176_22 _ _) dX12_beside_36 ?_
      refine n_iload_n (i := 3) dX12_beside_39 rfl rfl ?_
      obtain ⟨v19, hv19, h⟩ := yb_bind h
      refine p_iald hv19 (sh_195 _ _) dX12_beside_40 ?_
      obtain ⟨s20, hs20, h⟩ := yb_bind h
      refine p_iast hs20 (hx2 _) dX12_beside_41 ?_
      refine n_iinc (vs' := [some (.ref (yb_ad G 176)), some (.int x1), some (.ref (yb_ad G x2)), some (.int (x3 + (1 : Int32))), none, none, none]) dX12_beside_42 rfl (ii_1 _) (Nat.le_of_ble_eq_true rfl) rfl rfl ?_
      refine n_goto 25 dX12_beside_45 (by decide) ?_
      exact p_jump (hrc25 (x3 + (1 : Int32)) s20 h) (And.intro rfl (And.intro rfl (And.intro rfl (And.intro rfl trivial))))
set_option maxHeartbeats 4000000 in
set_option maxRecDepth 20000 in
theorem tl_X12_beside_25 {G : yb_G} {X : List (FieldType × Nat)} {Lx : Nat} (hLx : X.length ≤ Lx) {x1 : Int32} {x2 : Nat} {out : (Int32 × yb_S)} (hx2 : ∀ s : yb_S, (yb_mk s X).2.2.2.1 x2 = some (.inr (.int, 24))) {x3 : Int32} {s : yb_S} (h : l_X12_beside_25 x1 x2 yb_N x3 s = some out) : Rn G RX12 cX12_beside 7 (Option.some .int) false (yb_rmA 11 1 24) (yb_qa Lx out) 1 24 25 [some (.ref (yb_ad G 176)), some (.int x1), some (.ref (yb_ad G x2)), some (.int x3), none, none, none] [] (yb_mk s X) := t_l_X12_beside_25 hLx hx2 _ _ _ h
set_option maxHeartbeats 4000000 in
set_option maxRecDepth 20000 in
theorem t_X12_beside {G : yb_G} {X : List (FieldType × Nat)} {a1 : Int32} {nx : Nat} {s : yb_S} {out : (Int32 × yb_S)} {Lx : Nat} (hnx : 603 + X.length = nx) (hlim : nx + 1 ≤ 100000) (hL1 : X.length + 1 ≤ Lx) (h : f_X12_beside a1 nx s = some out) : Ct G yX12_beside cX12_beside 7 (Option.some .int) (yb_rmA 11 1 24) [.ref (yb_ad G 176), .int a1] (yb_mk s X) (yb_qa Lx out) := by
  refine Ct.of (own := RX12) (ini := false) (vs := [some (.ref (yb_ad G 176)), some (.int a1), none, none, none, none, none]) ⟨rfl, by decide +kernel⟩ (fun h => by cases h) (Nat.le_of_ble_eq_true rfl) rfl ?_
  unfold f_X12_beside at h
  have hLx : X.length ≤ Lx := Nat.le_of_succ_le hL1
  refine n_iload_n (i := 1) dX12_beside_0 rfl rfl ?_
  refine n_i2l dX12_beside_1 ?_
  refine n_lconst (0 : Int64) dX12_beside_2 rfl ?_
  refine n_aload_n (i := 0) dX12_beside_3 rfl rfl ?_
  refine p_geti fl_X12_440 (sh_176 _ _) rfl dX12_beside_4 ?_
  refine n_iconst (1 : Int32) dX12_beside_7 ic_1 ?_
  refine n_isub dX12_beside_8 ?_
  refine n_i2l dX12_beside_9 ?_
  obtain ⟨q1, hq1, h⟩ := yb_bind h
  refine p_callSi (As := [.long (a1.toInt64), .long (0 : Int64), .long (((s.1 176 54) - (1 : Int32)).toInt64)]) (t_X12_in hq1) cs_X12_247 rfl rfl (Nat.le_of_ble_eq_true rfl) dX12_beside_10 (yb_rokA (Nat.le_of_ble_eq_true rfl) (by decide)) ⟨rfl, rfl⟩ ⟨Nat.le_of_ble_eq_true rfl, Nat.le_of_ble_eq_true rfl⟩ (fun k2 => ?_)
  refine n_if_ne 18 dX12_beside_13 (by decide) (fun c3 => ?_) (fun c3 => ?_)
  · have h := yb_ifn c3 h
    refine n_bipush (24 : Int32) dX12_beside_18 bp_24 ?_
    obtain ⟨s0, hs0, h⟩ := yb_bind h
    cases hs0
    refine p_newint (n := 24) wA_int hnx hlim (by decide) ⟨by decide, by decide⟩ dX12_beside_20 ⟨Nat.le_of_ble_eq_true rfl, Nat.le_of_ble_eq_true rfl⟩ ?_
    have hrnx : ∀ s : yb_S, (yb_mk s (X ++ [(.int, 24)])).2.2.2.1 nx = some (.inr (.int, 24)) := fun s => yb_sh_new hnx
    have hLx : (X ++ [(FieldType.int, 24)]).length ≤ Lx := by rw [List.length_append]; exact hL1
    generalize X ++ [(FieldType.int, 24)] = X at hrnx hLx ⊢
    generalize yb_zI s nx = s0 at h ⊢
    refine n_astore_n (i := 2) (vs' := [some (.ref (yb_ad G 176)), some (.int a1), some (.ref (yb_ad G nx)), none, none, none, none]) dX12_beside_22 rfl (Nat.le_of_ble_eq_true rfl) rfl rfl ?_
    refine n_iconst (0 : Int32) dX12_beside_23 ic_0 ?_
    refine n_istore_n (i := 3) (vs' := [some (.ref (yb_ad G 176)), some (.int a1), some (.ref (yb_ad G nx)), some (.int (0 : Int32)), none, none, none]) dX12_beside_24 rfl (Nat.le_of_ble_eq_true rfl) rfl rfl ?_
    exact p_jump (tl_X12_beside_25 hLx hrnx h) (And.intro rfl (And.intro rfl (And.intro rfl (And.intro rfl trivial))))
  · have h := yb_ifp c3 h
    refine n_iconst (-1 : Int32) dX12_beside_16 ic_m1 ?_
    cases h
    exact n_iret dX12_beside_17 rfl rfl (Nat.le_of_ble_eq_true rfl) (Nat.le_of_ble_eq_true rfl) ⟨rfl, _, rfl, hLx⟩
set_option maxHeartbeats 4000000 in
set_option maxRecDepth 20000 in
theorem tj_X12_canAsk_168 {G : yb_G} {X : List (FieldType × Nat)} {rc118 : (Int32 → yb_S → Option (Int32 × yb_S))} {x2 : Int32} {x3 : Int32} {s : yb_S} {out : (Int32 × yb_S)} (hrc118 : ∀ (x3' : Int32) (s' : yb_S), rc118 x3' s' = some out → Rn G RX12 cX12_canAsk 4 (Option.some .boolean) false (yb_rm 2) (yb_qi X out.2 out.1) 0 0 118 [some (.ref (yb_ad G 176)), none, some (.int x2), some (.int x3')] [] (yb_mk s' X)) (h : j_X12_canAsk_168 rc118 x2 x3 s = some out) : Rn G RX12 cX12_canAsk 4 (Option.some .boolean) false (yb_rm 2) (yb_qi X out.2 out.1) 0 0 168 [some (.ref (yb_ad G 176)), none, some (.int x2), some (.int x3)] [] (yb_mk s X) := by
  unfold j_X12_canAsk_168 at h
  refine n_iinc (vs' := [some (.ref (yb_ad G 176)), none, some (.int x2), some (.int (x3 + (1 : Int32)))]) dX12_canAsk_168 rfl (ii_1 _) (Nat.le_of_ble_eq_true rfl) rfl rfl ?_
  refine n_goto 118 dX12_canAsk_171 (by decide) ?_
  exact p_jump (hrc118 (x3 + (1 : Int32)) s h) (And.intro rfl (And.intro rfl (And.intro rfl trivial)))
set_option maxHeartbeats 4000000 in
set_option maxRecDepth 20000 in
theorem t_l_X12_canAsk_118 {G : yb_G} {X : List (FieldType × Nat)} {x2 : Int32} {out : (Int32 × yb_S)} : ∀ (k0 : Nat) (x3 : Int32) (s : yb_S), l_X12_canAsk_118 x2 k0 x3 s = some out → Rn G RX12 cX12_canAsk 4 (Option.some .boolean) false (yb_rm 2) (yb_qi X out.2 out.1) 0 0 118 [some (.ref (yb_ad G 176)), none, some (.int x2), some (.int x3)] [] (yb_mk s X) := by
  intro k0
  induction k0 with
  | zero => intro x3 s h; cases h
  | succ k0 ih =>
    intro x3 s h
    have h : f_X12_canAsk_118 (fun x3 s => l_X12_canAsk_118 x2 k0 x3 s) x2 x3 s = some out := h
    have hrc118 := ih
    unfold f_X12_canAsk_118 at h
    refine n_iload_n (i := 3) dX12_canAsk_118 rfl rfl ?_
    refine n_aload_n (i := 0) dX12_canAsk_119 rfl rfl ?_
    refine p_geti fl_X12_251 (sh_176 _ _) rfl dX12_canAsk_120 ?_
    refine n_icmp_ge 174 dX12_canAsk_123 (by decide) (fun c10 => ?_) (fun c10 => ?_)
    · have h := yb_ifp c10 h
      refine n_iconst (1 : Int32) dX12_canAsk_174 ic_1 ?_
      cases h
      exact n_iret dX12_canAsk_175 rfl (by decide) (Nat.le_refl _) (Nat.le_refl _) ⟨rfl, rfl⟩
    · have h := yb_ifn c10 h
      refine n_iload_n (i := 2) dX12_canAsk_126 rfl rfl ?_
      refine n_iload_n (i := 3) dX12_canAsk_127 rfl rfl ?_
      refine n_ishr dX12_canAsk_128 ?_
      refine n_iconst (1 : Int32) dX12_canAsk_129 ic_1 ?_
      refine n_iand dX12_canAsk_130 ?_
      refine n_if_ne 137 dX12_canAsk_131 (by decide) (fun c11 => ?_) (fun c11 => ?_)
      · have h := yb_ifn c11 h
        refine n_aload_n (i := 0) dX12_canAsk_137 rfl rfl ?_
        refine p_geti fl_X12_562 (sh_176 _ _) rfl dX12_canAsk_138 ?_
        refine n_bipush (6 : Int32) dX12_canAsk_141 bp_6 ?_
        refine n_icmp_ne 148 dX12_canAsk_143 (by decide) (fun c12 => ?_) (fun c12 => ?_)
        · have h := yb_ifn c12 h
          refine n_aload_n (i := 0) dX12_canAsk_148 rfl rfl ?_
          refine p_getr fl_X12_214 (sh_176 _ _) rfl (rR_176_69 _ _) dX12_canAsk_149 ?_
          refine n_aload_n (i := 0) dX12_canAsk_152 rfl rfl ?_
          refine p_geti fl_X12_562 (sh_176 _ _) rfl dX12_canAsk_153 ?_
          refine n_iload_n (i := 3) dX12_canAsk_156 rfl rfl ?_
          obtain ⟨s13, hs13, h⟩ := yb_bind h
          refine p_iast hs13 (sh_593 _ _) dX12_canAsk_157 ?_
          refine n_aload_n (i := 0) dX12_canAsk_158 rfl rfl ?_
          refine n_dup dX12_canAsk_159 rfl ?_
          refine p_geti fl_X12_562 (sh_176 _ _) rfl dX12_canAsk_160 ?_
          refine n_iconst (1 : Int32) dX12_canAsk_163 ic_1 ?_
          refine n_iadd dX12_canAsk_164 ?_
          obtain ⟨s14, hs14, h⟩ := yb_bind h
          refine p_puti hs14 fp_X12_562 (sh_176 _ _) rfl rfl rfl dX12_canAsk_165 ?_
          exact p_jump (tj_X12_canAsk_168 hrc118 h) (And.intro rfl (And.intro rfl (And.intro rfl trivial)))
        · have h := yb_ifp c12 h
          refine n_iconst (0 : Int32) dX12_canAsk_146 ic_0 ?_
          cases h
          exact n_iret dX12_canAsk_147 rfl (by decide) (Nat.le_refl _) (Nat.le_refl _) ⟨rfl, rfl⟩
      · have h := yb_ifp c11 h
        refine n_goto 168 dX12_canAsk_134 (by decide) ?_
        exact p_jump (tj_X12_canAsk_168 hrc118 h) (And.intro rfl (And.intro rfl (And.intro rfl trivial)))
set_option maxHeartbeats 4000000 in
set_option maxRecDepth 20000 in
theorem tl_X12_canAsk_118 {G : yb_G} {X : List (FieldType × Nat)} {x2 : Int32} {out : (Int32 × yb_S)} {x3 : Int32} {s : yb_S} (h : l_X12_canAsk_118 x2 yb_N x3 s = some out) : Rn G RX12 cX12_canAsk 4 (Option.some .boolean) false (yb_rm 2) (yb_qi X out.2 out.1) 0 0 118 [some (.ref (yb_ad G 176)), none, some (.int x2), some (.int x3)] [] (yb_mk s X) := t_l_X12_canAsk_118 _ _ _ h
set_option maxHeartbeats 4000000 in
set_option maxRecDepth 20000 in
theorem tj_X12_canAsk_110 {G : yb_G} {X : List (FieldType × Nat)} {rc50 : (Int32 → yb_S → Option (Int32 × yb_S))} {x1 : Int32} {x2 : Int32} {x3 : Int32} {s : yb_S} {out : (Int32 × yb_S)} (hrc50 : ∀ (x3' : Int32) (s' : yb_S), rc50 x3' s' = some out → Rn G RX12 cX12_canAsk 4 (Option.some .boolean) false (yb_rm 2) (yb_qi X out.2 out.1) 0 0 50 [some (.ref (yb_ad G 176)), some (.int x1), some (.int x2), some (.int x3')] [] (yb_mk s' X)) (h : j_X12_canAsk_110 rc50 x1 x2 x3 s = some out) : Rn G RX12 cX12_canAsk 4 (Option.some .boolean) false (yb_rm 2) (yb_qi X out.2 out.1) 0 0 110 [some (.ref (yb_ad G 176)), some (.int x1), some (.int x2), some (.int x3)] [] (yb_mk s X) := by
  unfold j_X12_canAsk_110 at h
  refine n_iinc (vs' := [some (.ref (yb_ad G 176)), some (.int x1), some (.int x2), some (.int (x3 + (1 : Int32)))]) dX12_canAsk_110 rfl (ii_1 _) (Nat.le_of_ble_eq_true rfl) rfl rfl ?_
  refine n_goto 50 dX12_canAsk_113 (by decide) ?_
  exact p_jump (hrc50 (x3 + (1 : Int32)) s h) (And.intro rfl (And.intro rfl (And.intro rfl (And.intro rfl trivial))))
set_option maxHeartbeats 4000000 in
set_option maxRecDepth 20000 in
theorem t_l_X12_canAsk_50 {G : yb_G} {X : List (FieldType × Nat)} {x1 : Int32} {x2 : Int32} {out : (Int32 × yb_S)} : ∀ (k0 : Nat) (x3 : Int32) (s : yb_S), l_X12_canAsk_50 x1 x2 k0 x3 s = some out → Rn G RX12 cX12_canAsk 4 (Option.some .boolean) false (yb_rm 2) (yb_qi X out.2 out.1) 0 0 50 [some (.ref (yb_ad G 176)), some (.int x1), some (.int x2), some (.int x3)] [] (yb_mk s X) := by
  intro k0
  induction k0 with
  | zero => intro x3 s h; cases h
  | succ k0 ih =>
    intro x3 s h
    have h : f_X12_canAsk_50 (fun x3 s => l_X12_canAsk_50 x1 x2 k0 x3 s) x1 x2 x3 s = some out := h
    have hrc50 := ih
    unfold f_X12_canAsk_50 at h
    refine n_iload_n (i := 3) dX12_canAsk_50 rfl rfl ?_
    refine n_aload_n (i := 0) dX12_canAsk_51 rfl rfl ?_
    refine p_geti fl_X12_254 (sh_176 _ _) rfl dX12_canAsk_52 ?_
    refine n_icmp_ge 116 dX12_canAsk_55 (by decide) (fun c9 => ?_) (fun c9 => ?_)
    · have h := yb_ifp c9 h
      refine n_iconst (0 : Int32) dX12_canAsk_116 ic_0 ?_
      refine n_istore_n (i := 3) (vs' := [some (.ref (yb_ad G 176)), some (.int x1), some (.int x2), some (.int (0 : Int32))]) dX12_canAsk_117 rfl (Nat.le_of_ble_eq_true rfl) rfl rfl ?_
      exact p_jump (tl_X12_canAsk_118 h) (And.intro rfl (And.intro rfl (And.intro rfl trivial)))
    · have h := yb_ifn c9 h
      refine n_iload_n (i := 1) dX12_canAsk_58 rfl rfl ?_
      refine n_iload_n (i := 3) dX12_canAsk_59 rfl rfl ?_
      refine n_ishr dX12_canAsk_60 ?_
      refine n_iconst (1 : Int32) dX12_canAsk_61 ic_1 ?_
      refine n_iand dX12_canAsk_62 ?_
      refine n_if_ne 69 dX12_canAsk_63 (by decide) (fun c15 => ?_) (fun c15 => ?_)
      · have h := yb_ifn c15 h
        refine n_aload_n (i := 0) dX12_canAsk_69 rfl rfl ?_
        refine p_geti fl_X12_547 (sh_176 _ _) rfl dX12_canAsk_70 ?_
        refine n_bipush (6 : Int32) dX12_canAsk_73 bp_6 ?_
        refine n_icmp_eq 88 dX12_canAsk_75 (by decide) (fun c16 => ?_) (fun c16 => ?_)
        · have h := yb_ifp c16 h
          refine n_iconst (0 : Int32) dX12_canAsk_88 ic_0 ?_
          cases h
          exact n_iret dX12_canAsk_89 rfl (by decide) (Nat.le_refl _) (Nat.le_refl _) ⟨rfl, rfl⟩
        · have h := yb_ifn c16 h
          refine n_aload_n (i := 0) dX12_canAsk_78 rfl rfl ?_
          refine p_getr fl_X12_66 (sh_176 _ _) rfl (rR_176_22 _ _) dX12_canAsk_79 ?_
          refine n_iload_n (i := 3) dX12_canAsk_82 rfl rfl ?_
          obtain ⟨v17, hv17, h⟩ := yb_bind h
          refine p_iald hv17 (sh_195 _ _) dX12_canAsk_83 ?_
          refine n_iconst (2 : Int32) dX12_canAsk_84 ic_2 ?_
          refine n_icmp_ne 90 dX12_canAsk_85 (by decide) (fun c18 => ?_) (fun c18 => ?_)
          · have h := yb_ifn c18 h
            refine n_aload_n (i := 0) dX12_canAsk_90 rfl rfl ?_
            refine p_getr fl_X12_211 (sh_176 _ _) rfl (rR_176_68 _ _) dX12_canAsk_91 ?_
            refine n_aload_n (i := 0) dX12_canAsk_94 rfl rfl ?_
            refine p_geti fl_X12_547 (sh_176 _ _) rfl dX12_canAsk_95 ?_
            refine n_iload_n (i := 3) dX12_canAsk_98 rfl rfl ?_
            obtain ⟨s19, hs19, h⟩ := yb_bind h
            refine p_iast hs19 (sh_592 _ _) dX12_canAsk_99 ?_
            refine n_aload_n (i := 0) dX12_canAsk_100 rfl rfl ?_
            refine n_dup dX12_canAsk_101 rfl ?_
            refine p_geti fl_X12_547 (sh_176 _ _) rfl dX12_canAsk_102 ?_
            refine n_iconst (1 : Int32) dX12_canAsk_105 ic_1 ?_
            refine n_iadd dX12_canAsk_106 ?_
            obtain ⟨s20, hs20, h⟩ := yb_bind h
            refine p_puti hs20 fp_X12_547 (sh_176 _ _) rfl rfl rfl dX12_canAsk_107 ?_
            exact p_jump (tj_X12_canAsk_110 hrc50 h) (And.intro rfl (And.intro rfl (And.intro rfl (And.intro rfl trivial))))
          · have h := yb_ifp c18 h
            refine n_iconst (0 : Int32) dX12_canAsk_88 ic_0 ?_
            cases h
            exact n_iret dX12_canAsk_89 rfl (by decide) (Nat.le_refl _) (Nat.le_refl _) ⟨rfl, rfl⟩
      · have h := yb_ifp c15 h
        refine n_goto 110 dX12_canAsk_66 (by decide) ?_
        exact p_jump (tj_X12_canAsk_110 hrc50 h) (And.intro rfl (And.intro rfl (And.intro rfl (And.intro rfl trivial))))
set_option maxHeartbeats 4000000 in
set_option maxRecDepth 20000 in
theorem tl_X12_canAsk_50 {G : yb_G} {X : List (FieldType × Nat)} {x1 : Int32} {x2 : Int32} {out : (Int32 × yb_S)} {x3 : Int32} {s : yb_S} (h : l_X12_canAsk_50 x1 x2 yb_N x3 s = some out) : Rn G RX12 cX12_canAsk 4 (Option.some .boolean) false (yb_rm 2) (yb_qi X out.2 out.1) 0 0 50 [some (.ref (yb_ad G 176)), some (.int x1), some (.int x2), some (.int x3)] [] (yb_mk s X) := t_l_X12_canAsk_50 _ _ _ h
set_option maxHeartbeats 4000000 in
set_option maxRecDepth 20000 in
theorem t_X12_canAsk {G : yb_G} {X : List (FieldType × Nat)} {a1 : Int32} {a2 : Int32} {s : yb_S} {out : (Int32 × yb_S)} (h : f_X12_canAsk a1 a2 s = some out) : Ct G yX12_canAsk cX12_canAsk 4 (Option.some .boolean) (yb_rm 2) [.ref (yb_ad G 176), .int a1, .int a2] (yb_mk s X) (yb_qi X out.2 out.1) := by
  refine Ct.of (own := RX12) (ini := false) (vs := [some (.ref (yb_ad G 176)), some (.int a1), some (.int a2), none]) ⟨rfl, by decide +kernel⟩ (fun h => by cases h) (Nat.le_of_ble_eq_true rfl) rfl ?_
  unfold f_X12_canAsk at h
  refine n_aload_n (i := 0) dX12_canAsk_0 rfl rfl ?_
  refine n_iconst (0 : Int32) dX12_canAsk_1 ic_0 ?_
  obtain ⟨s1, hs1, h⟩ := yb_bind h
  refine p_puti hs1 fp_X12_547 (sh_176 _ _) rfl rfl rfl dX12_canAsk_2 ?_
  refine n_aload_n (i := 0) dX12_canAsk_5 rfl rfl ?_
  refine n_iconst (0 : Int32) dX12_canAsk_6 ic_0 ?_
  obtain ⟨s2, hs2, h⟩ := yb_bind h
  refine p_puti hs2 fp_X12_562 (sh_176 _ _) rfl rfl rfl dX12_canAsk_7 ?_
  refine n_iload_n (i := 1) dX12_canAsk_10 rfl rfl ?_
  refine n_i2l dX12_canAsk_11 ?_
  refine n_lconst (1 : Int64) dX12_canAsk_12 rfl ?_
  refine n_iconst (1 : Int32) dX12_canAsk_13 ic_1 ?_
  refine n_aload_n (i := 0) dX12_canAsk_14 rfl rfl ?_
  refine p_geti fl_X12_254 (sh_176 _ _) rfl dX12_canAsk_15 ?_
  refine n_ishl dX12_canAsk_18 ?_
  refine n_iconst (1 : Int32) dX12_canAsk_19 ic_1 ?_
  refine n_isub dX12_canAsk_20 ?_
  refine n_i2l dX12_canAsk_21 ?_
  obtain ⟨q3, hq3, h⟩ := yb_bind h
  refine p_callSi (As := [.long (a1.toInt64), .long (1 : Int64), .long ((((1 : Int32) <<< ((s2.1 176 27) &&& 31)) - (1 : Int32)).toInt64)]) (t_X12_in hq3) cs_X12_247 rfl rfl (Nat.le_of_ble_eq_true rfl) dX12_canAsk_22 (yb_rok (Nat.le_of_ble_eq_true rfl) (by decide)) ⟨rfl, rfl⟩ ⟨Nat.le_refl _, Nat.le_refl _⟩ (fun k4 => ?_)
  refine n_if_eq 46 dX12_canAsk_25 (by decide) (fun c5 => ?_) (fun c5 => ?_)
  · have h := yb_ifp c5 h
    refine n_iconst (0 : Int32) dX12_canAsk_46 ic_0 ?_
    cases h
    exact n_iret dX12_canAsk_47 rfl (by decide) (Nat.le_refl _) (Nat.le_refl _) ⟨rfl, rfl⟩
  · have h := yb_ifn c5 h
    refine n_iload_n (i := 2) dX12_canAsk_28 rfl rfl ?_
    refine n_i2l dX12_canAsk_29 ?_
    refine n_lconst (1 : Int64) dX12_canAsk_30 rfl ?_
    refine n_iconst (1 : Int32) dX12_canAsk_31 ic_1 ?_
    refine n_aload_n (i := 0) dX12_canAsk_32 rfl rfl ?_
    refine p_geti fl_X12_251 (sh_176 _ _) rfl dX12_canAsk_33 ?_
    refine n_ishl dX12_canAsk_36 ?_
    refine n_iconst (1 : Int32) dX12_canAsk_37 ic_1 ?_
    refine n_isub dX12_canAsk_38 ?_
    refine n_i2l dX12_canAsk_39 ?_
    obtain ⟨q6, hq6, h⟩ := yb_bind h
    refine p_callSi (As := [.long (a2.toInt64), .long (1 : Int64), .long ((((1 : Int32) <<< ((s2.1 176 15) &&& 31)) - (1 : Int32)).toInt64)]) (t_X12_in hq6) cs_X12_247 rfl rfl (Nat.le_of_ble_eq_true rfl) dX12_canAsk_40 (yb_rok (Nat.le_of_ble_eq_true rfl) (by decide)) ⟨rfl, rfl⟩ ⟨Nat.le_refl _, Nat.le_refl _⟩ (fun k7 => ?_)
    refine n_if_ne 48 dX12_canAsk_43 (by decide) (fun c8 => ?_) (fun c8 => ?_)
    · have h := yb_ifn c8 h
      refine n_iconst (0 : Int32) dX12_canAsk_48 ic_0 ?_
      refine n_istore_n (i := 3) (vs' := [some (.ref (yb_ad G 176)), some (.int a1), some (.int a2), some (.int (0 : Int32))]) dX12_canAsk_49 rfl (Nat.le_of_ble_eq_true rfl) rfl rfl ?_
      exact p_jump (tl_X12_canAsk_50 h) (And.intro rfl (And.intro rfl (And.intro rfl (And.intro rfl trivial))))
    · have h := yb_ifp c8 h
      refine n_iconst (0 : Int32) dX12_canAsk_46 ic_0 ?_
      cases h
      exact n_iret dX12_canAsk_47 rfl (by decide) (Nat.le_refl _) (Nat.le_refl _) ⟨rfl, rfl⟩
set_option maxHeartbeats 4000000 in
set_option maxRecDepth 20000 in
theorem t_l_X12_looks_230 {G : yb_G} {X : List (FieldType × Nat)} {out : yb_S} : ∀ (k0 : Nat) (x4 : Int32) (s : yb_S), l_X12_looks_230 k0 x4 s = some out → Rn G RX12 cX12_looks 6 none false (yb_rm 6) (yb_qv X out) 0 0 230 [some (.ref (yb_ad G 176)), none, none, none, some (.int x4), none] [] (yb_mk s X) := by
  intro k0
  induction k0 with
  | zero => intro x4 s h; cases h
  | succ k0 ih =>
    intro x4 s h
    have h : f_X12_looks_230 (fun x4 s => l_X12_looks_230 k0 x4 s) x4 s = some out := h
    have hrc230 := ih
    unfold f_X12_looks_230 at h
    refine n_iload dX12_looks_230 rfl ?_
    refine n_aload_n (i := 0) dX12_looks_232 rfl rfl ?_
    refine p_geti fl_X12_547 (sh_176 _ _) rfl dX12_looks_233 ?_
    refine n_icmp_ge 259 dX12_looks_236 (by decide) (fun c7 => ?_) (fun c7 => ?_)
    · have h := yb_ifp c7 h
      cases h
      exact n_vret dX12_looks_259 rfl (Nat.le_refl _) (Nat.le_refl _) ⟨rfl, rfl⟩
    · have h := yb_ifn c7 h
      refine n_aload_n (i := 0) dX12_looks_239 rfl rfl ?_
      refine p_getr fl_X12_226 (sh_176 _ _) rfl (rR_176_73 _ _) dX12_looks_240 ?_
      refine n_iload dX12_looks_243 rfl ?_
      refine n_aload_n (i := 0) dX12_looks_245 rfl rfl ?_
      refine p_getr fl_X12_223 (sh_176 _ _) rfl (rR_176_72 _ _) dX12_looks_246 ?_
      refine n_iload dX12_looks_249 rfl ?_
      obtain ⟨v8, hv8, h⟩ := yb_bind h
      refine p_iald hv8 (sh_596 _ _) dX12_looks_251 ?_
      obtain ⟨s9, hs9, h⟩ := yb_bind h
      refine p_iast hs9 (sh_597 _ _) dX12_looks_252 ?_
      refine n_iinc (vs' := [some (.ref (yb_ad G 176)), none, none, none, some (.int (x4 + (1 : Int32))), none]) dX12_looks_253 rfl (ii_1 _) (Nat.le_of_ble_eq_true rfl) rfl rfl ?_
      refine n_goto 230 dX12_looks_256 (by decide) ?_
      exact p_jump (hrc230 (x4 + (1 : Int32)) s9 h) (And.intro rfl (And.intro rfl trivial))
set_option maxHeartbeats 4000000 in
set_option maxRecDepth 20000 in
theorem tl_X12_looks_230 {G : yb_G} {X : List (FieldType × Nat)} {out : yb_S} {x4 : Int32} {s : yb_S} (h : l_X12_looks_230 yb_N x4 s = some out) : Rn G RX12 cX12_looks 6 none false (yb_rm 6) (yb_qv X out) 0 0 230 [some (.ref (yb_ad G 176)), none, none, none, some (.int x4), none] [] (yb_mk s X) := t_l_X12_looks_230 _ _ _ h
set_option maxHeartbeats 4000000 in
set_option maxRecDepth 20000 in
theorem tj_X12_looks_212 {G : yb_G} {X : List (FieldType × Nat)} {x1 : Int32} {x2 : Int32} {x3 : Int32} {s : yb_S} {out : yb_S} (h : j_X12_looks_212 x1 x2 x3 s = some out) : Rn G RX12 cX12_looks 6 none false (yb_rm 6) (yb_qv X out) 0 0 212 [some (.ref (yb_ad G 176)), some (.int x1), some (.int x2), some (.int x3), none, none] [] (yb_mk s X) := by
  unfold j_X12_looks_212 at h
  refine n_aload_n (i := 0) dX12_looks_212 rfl rfl ?_
  refine n_iload_n (i := 1) dX12_looks_213 rfl rfl ?_
  obtain ⟨s4, hs4, h⟩ := yb_bind h
  refine p_puti hs4 fp_X12_550 (sh_176 _ _) rfl rfl rfl dX12_looks_214 ?_
  refine n_aload_n (i := 0) dX12_looks_217 rfl rfl ?_
  refine n_iload_n (i := 2) dX12_looks_218 rfl rfl ?_
  obtain ⟨s5, hs5, h⟩ := yb_bind h
  refine p_puti hs5 fp_X12_553 (sh_176 _ _) rfl rfl rfl dX12_looks_219 ?_
  refine n_aload_n (i := 0) dX12_looks_222 rfl rfl ?_
  refine n_iload_n (i := 3) dX12_looks_223 rfl rfl ?_
  obtain ⟨s6, hs6, h⟩ := yb_bind h
  refine p_puti hs6 fp_X12_556 (sh_176 _ _) rfl rfl rfl dX12_looks_224 ?_
  refine n_iconst (0 : Int32) dX12_looks_227 ic_0 ?_
  refine n_istore (i := 4) (vs' := [some (.ref (yb_ad G 176)), some (.int x1), some (.int x2), some (.int x3), some (.int (0 : Int32)), none]) dX12_looks_228 (Nat.le_of_ble_eq_true rfl) rfl rfl ?_
  exact p_jump (tl_X12_looks_230 h) (And.intro rfl (And.intro rfl trivial))
set_option maxHeartbeats 4000000 in
set_option maxRecDepth 20000 in
theorem tj_X12_looks_165 {G : yb_G} {X : List (FieldType × Nat)} {rc9 : (Int32 → Int32 → Int32 → Int32 → yb_S → Option yb_S)} {x1 : Int32} {x2 : Int32} {x3 : Int32} {x4 : Int32} {s : yb_S} {out : yb_S} (hrc9 : ∀ (x1' : Int32) (x2' : Int32) (x3' : Int32) (x4' : Int32) (s' : yb_S), rc9 x1' x2' x3' x4' s' = some out → Rn G RX12 cX12_looks 6 none false (yb_rm 6) (yb_qv X out) 0 0 9 [some (.ref (yb_ad G 176)), some (.int x1'), some (.int x2'), some (.int x3'), some (.int x4'), none] [] (yb_mk s' X)) (h : j_X12_looks_165 rc9 x1 x2 x3 x4 s = some out) : Rn G RX12 cX12_looks 6 none false (yb_rm 6) (yb_qv X out) 0 0 165 [some (.ref (yb_ad G 176)), some (.int x1), some (.int x2), some (.int x3), some (.int x4), none] [] (yb_mk s X) := by
  unfold j_X12_looks_165 at h
  refine n_iinc (vs' := [some (.ref (yb_ad G 176)), some (.int x1), some (.int x2), some (.int x3), some (.int (x4 + (1 : Int32))), none]) dX12_looks_165 rfl (ii_1 _) (Nat.le_of_ble_eq_true rfl) rfl rfl ?_
  refine n_goto 9 dX12_looks_168 (by decide) ?_
  exact p_jump (hrc9 x1 x2 x3 (x4 + (1 : Int32)) s h) (And.intro rfl (And.intro rfl (And.intro rfl (And.intro rfl (And.intro rfl trivial)))))
set_option maxHeartbeats 4000000 in
set_option maxRecDepth 20000 in
theorem tj_X12_looks_157 {G : yb_G} {X : List (FieldType × Nat)} {rc9 : (Int32 → Int32 → Int32 → Int32 → yb_S → Option yb_S)} {rc85 : (Int32 → Int32 → yb_S → Option yb_S)} {x1 : Int32} {x3 : Int32} {x4 : Int32} {x5 : Int32} {y0 : Int32} {y1 : Int32} {s : yb_S} {out : yb_S} (hrc9 : ∀ (x1' : Int32) (x2' : Int32) (x3' : Int32) (x4' : Int32) (s' : yb_S), rc9 x1' x2' x3' x4' s' = some out → Rn G RX12 cX12_looks 6 none false (yb_rm 6) (yb_qv X out) 0 0 9 [some (.ref (yb_ad G 176)), some (.int x1'), some (.int x2'), some (.int x3'), some (.int x4'), none] [] (yb_mk s' X)) (hrc85 : ∀ (x2' : Int32) (x5' : Int32) (s' : yb_S), rc85 x2' x5' s' = some out → Rn G RX12 cX12_looks 6 none false (yb_rm 6) (yb_qv X out) 0 0 85 [some (.ref (yb_ad G 176)), some (.int x1), some (.int x2'), some (.int x3), some (.int x4), some (.int x5')] [] (yb_mk s' X)) (h : j_X12_looks_157 rc9 rc85 x1 x3 x4 x5 y0 y1 s = some out) : Rn G RX12 cX12_looks 6 none false (yb_rm 6) (yb_qv X out) 0 0 157 [some (.ref (yb_ad G 176)), some (.int x1), none, some (.int x3), some (.int x4), some (.int x5)] [.int y0, .int y1] (yb_mk s X) := by
  unfold j_X12_looks_157 at h
  refine n_iadd dX12_looks_157 ?_
  refine n_istore_n (i := 2) (vs' := [some (.ref (yb_ad G 176)), some (.int x1), some (.int (y1 + y0)), some (.int x3), some (.int x4), some (.int x5)]) dX12_looks_158 rfl (Nat.le_of_ble_eq_true rfl) rfl rfl ?_
  refine n_iinc (vs' := [some (.ref (yb_ad G 176)), some (.int x1), some (.int (y1 + y0)), some (.int x3), some (.int x4), some (.int (x5 + (1 : Int32)))]) dX12_looks_159 rfl (ii_1 _) (Nat.le_of_ble_eq_true rfl) rfl rfl ?_
  refine n_goto 85 dX12_looks_162 (by decide) ?_
  exact p_jump (hrc85 (y1 + y0) (x5 + (1 : Int32)) s h) (And.intro rfl (And.intro rfl (And.intro rfl (And.intro rfl (And.intro rfl (And.intro rfl trivial))))))
set_option maxHeartbeats 4000000 in
set_option maxRecDepth 20000 in
theorem tj_X12_looks_156 {G : yb_G} {X : List (FieldType × Nat)} {rc9 : (Int32 → Int32 → Int32 → Int32 → yb_S → Option yb_S)} {rc85 : (Int32 → Int32 → yb_S → Option yb_S)} {x1 : Int32} {x3 : Int32} {x4 : Int32} {x5 : Int32} {y0 : Int32} {s : yb_S} {out : yb_S} (hrc9 : ∀ (x1' : Int32) (x2' : Int32) (x3' : Int32) (x4' : Int32) (s' : yb_S), rc9 x1' x2' x3' x4' s' = some out → Rn G RX12 cX12_looks 6 none false (yb_rm 6) (yb_qv X out) 0 0 9 [some (.ref (yb_ad G 176)), some (.int x1'), some (.int x2'), some (.int x3'), some (.int x4'), none] [] (yb_mk s' X)) (hrc85 : ∀ (x2' : Int32) (x5' : Int32) (s' : yb_S), rc85 x2' x5' s' = some out → Rn G RX12 cX12_looks 6 none false (yb_rm 6) (yb_qv X out) 0 0 85 [some (.ref (yb_ad G 176)), some (.int x1), some (.int x2'), some (.int x3), some (.int x4), some (.int x5')] [] (yb_mk s' X)) (h : j_X12_looks_156 rc9 rc85 x1 x3 x4 x5 y0 s = some out) : Rn G RX12 cX12_looks 6 none false (yb_rm 6) (yb_qv X out) 0 0 156 [some (.ref (yb_ad G 176)), some (.int x1), none, some (.int x3), some (.int x4), some (.int x5)] [.int y0] (yb_mk s X) := by
  unfold j_X12_looks_156 at h
  refine n_iconst (0 : Int32) dX12_looks_156 ic_0 ?_
  exact p_jump (tj_X12_looks_157 hrc9 hrc85 h) (And.intro rfl (And.intro rfl (And.intro rfl (And.intro rfl (And.intro rfl trivial)))))
set_option maxHeartbeats 4000000 in
set_option maxRecDepth 20000 in
theorem t_l_X12_looks_85 {G : yb_G} {X : List (FieldType × Nat)} {rc9 : (Int32 → Int32 → Int32 → Int32 → yb_S → Option yb_S)} {x1 : Int32} {x3 : Int32} {x4 : Int32} {out : yb_S} (hrc9 : ∀ (x1' : Int32) (x2' : Int32) (x3' : Int32) (x4' : Int32) (s' : yb_S), rc9 x1' x2' x3' x4' s' = some out → Rn G RX12 cX12_looks 6 none false (yb_rm 6) (yb_qv X out) 0 0 9 [some (.ref (yb_ad G 176)), some (.int x1'), some (.int x2'), some (.int x3'), some (.int x4'), none] [] (yb_mk s' X)) : ∀ (k0 : Nat) (x2 : Int32) (x5 : Int32) (s : yb_S), l_X12_looks_85 rc9 x1 x3 x4 k0 x2 x5 s = some out → Rn G RX12 cX12_looks 6 none false (yb_rm 6) (yb_qv X out) 0 0 85 [some (.ref (yb_ad G 176)), some (.int x1), some (.int x2), some (.int x3), some (.int x4), some (.int x5)] [] (yb_mk s X) := by
  intro k0
  induction k0 with
  | zero => intro x2 x5 s h; cases h
  | succ k0 ih =>
    intro x2 x5 s h
    have h : f_X12_looks_85 rc9 (fun x2 x5 s => l_X12_looks_85 rc9 x1 x3 x4 k0 x2 x5 s) x1 x3 x4 x2 x5 s = some out := h
    have hrc85 := ih
    unfold f_X12_looks_85 at h
    refine n_iload dX12_looks_85 rfl ?_
    refine n_iload dX12_looks_87 rfl ?_
    refine n_icmp_ge 165 dX12_looks_89 (by decide) (fun c22 => ?_) (fun c22 => ?_)
    · have h := yb_ifp c22 h
      exact p_jump (tj_X12_looks_165 hrc9 h) (And.intro rfl (And.intro rfl (And.intro rfl (And.intro rfl (And.intro rfl trivial)))))
    · have h := yb_ifn c22 h
      refine n_iload_n (i := 2) dX12_looks_92 rfl rfl ?_
      refine n_aload_n (i := 0) dX12_looks_93 rfl rfl ?_
      refine p_getr fl_X12_223 (sh_176 _ _) rfl (rR_176_72 _ _) dX12_looks_94 ?_
      refine n_iload dX12_looks_97 rfl ?_
      obtain ⟨v23, hv23, h⟩ := yb_bind h
      refine p_iald hv23 (sh_596 _ _) dX12_looks_99 ?_
      refine n_iconst (-1 : Int32) dX12_looks_100 ic_m1 ?_
      refine n_icmp_eq 156 dX12_looks_101 (by decide) (fun c24 => ?_) (fun c24 => ?_)
      · have h := yb_ifp c24 h
        exact p_jump (tj_X12_looks_156 hrc9 hrc85 h) (And.intro rfl (And.intro rfl (And.intro rfl (And.intro rfl (And.intro rfl trivial)))))
      · have h := yb_ifn c24 h
        refine n_aload_n (i := 0) dX12_looks_104 rfl rfl ?_
        refine p_getr fl_X12_30 (sh_176 _ _) rfl (rR_176_9 _ _) dX12_looks_105 ?_
        refine n_aload_n (i := 0) dX12_looks_108 rfl rfl ?_
        refine p_getr fl_X12_223 (sh_176 _ _) rfl (rR_176_72 _ _) dX12_looks_109 ?_
        refine n_iload dX12_looks_112 rfl ?_
        obtain ⟨v25, hv25, h⟩ := yb_bind h
        refine p_iald hv25 (sh_596 _ _) dX12_looks_114 ?_
        obtain ⟨v26, hv26, h⟩ := yb_bind h
        refine p_iald hv26 (sh_183 _ _) dX12_looks_115 ?_
        refine n_aload_n (i := 0) dX12_looks_116 rfl rfl ?_
        refine p_getr fl_X12_30 (sh_176 _ _) rfl (rR_176_9 _ _) dX12_looks_117 ?_
        refine n_aload_n (i := 0) dX12_looks_120 rfl rfl ?_
        refine p_getr fl_X12_223 (sh_176 _ _) rfl (rR_176_72 _ _) dX12_looks_121 ?_
        refine n_iload dX12_looks_124 rfl ?_
        obtain ⟨v27, hv27, h⟩ := yb_bind h
        refine p_iald hv27 (sh_596 _ _) dX12_looks_126 ?_
        obtain ⟨v28, hv28, h⟩ := yb_bind h
        refine p_iald hv28 (sh_183 _ _) dX12_looks_127 ?_
        refine n_icmp_ne 156 dX12_looks_128 (by decide) (fun c29 => ?_) (fun c29 => ?_)
        · have h := yb_ifn c29 h
          exact p_jump (tj_X12_looks_156 hrc9 hrc85 h) (And.intro rfl (And.intro rfl (And.intro rfl (And.intro rfl (And.intro rfl trivial)))))
        · have h := yb_ifp c29 h
          refine n_aload_n (i := 0) dX12_looks_131 rfl rfl ?_
          refine n_aload_n (i := 0) dX12_looks_132 rfl rfl ?_
          refine p_getr fl_X12_211 (sh_176 _ _) rfl (rR_176_68 _ _) dX12_looks_133 ?_
          refine n_iload dX12_looks_136 rfl ?_
          obtain ⟨v30, hv30, h⟩ := yb_bind h
          refine p_iald hv30 (sh_592 _ _) dX12_looks_138 ?_
          refine n_aload_n (i := 0) dX12_looks_139 rfl rfl ?_
          refine p_getr fl_X12_211 (sh_176 _ _) rfl (rR_176_68 _ _) dX12_looks_140 ?_
          refine n_iload dX12_looks_143 rfl ?_
          obtain ⟨v31, hv31, h⟩ := yb_bind h
          refine p_iald hv31 (sh_592 _ _) dX12_looks_145 ?_
          obtain ⟨q32, hq32, h⟩ := yb_bind h
          refine p_callVi (As := [.int v30, .int v31]) (t_X12_areKin hq32) cv_X12_340 (sh_176 _ _) rfl rfl (Nat.le_of_ble_eq_true rfl) dX12_looks_146 (yb_rok (Nat.le_of_ble_eq_true rfl) (by decide)) ⟨rfl, rfl⟩ ⟨Nat.le_refl _, Nat.le_refl _⟩ (fun k33 => ?_)
          refine n_if_eq 156 dX12_looks_149 (by decide) (fun c34 => ?_) (fun c34 => ?_)
          · have h := yb_ifp c34 h
            exact p_jump (tj_X12_looks_156 hrc9 hrc85 h) (And.intro rfl (And.intro rfl (And.intro rfl (And.intro rfl (And.intro rfl trivial)))))
          · have h := yb_ifn c34 h
            refine n_iconst (1 : Int32) dX12_looks_152 ic_1 ?_
            refine n_goto 157 dX12_looks_153 (by decide) ?_
            exact p_jump (tj_X12_looks_157 hrc9 hrc85 h) (And.intro rfl (And.intro rfl (And.intro rfl (And.intro rfl (And.intro rfl trivial)))))
set_option maxHeartbeats 4000000 in
set_option maxRecDepth 20000 in
theorem tl_X12_looks_85 {G : yb_G} {X : List (FieldType × Nat)} {rc9 : (Int32 → Int32 → Int32 → Int32 → yb_S → Option yb_S)} {x1 : Int32} {x3 : Int32} {x4 : Int32} {out : yb_S} (hrc9 : ∀ (x1' : Int32) (x2' : Int32) (x3' : Int32) (x4' : Int32) (s' : yb_S), rc9 x1' x2' x3' x4' s' = some out → Rn G RX12 cX12_looks 6 none false (yb_rm 6) (yb_qv X out) 0 0 9 [some (.ref (yb_ad G 176)), some (.int x1'), some (.int x2'), some (.int x3'), some (.int x4'), none] [] (yb_mk s' X)) {x2 : Int32} {x5 : Int32} {s : yb_S} (h : l_X12_looks_85 rc9 x1 x3 x4 yb_N x2 x5 s = some out) : Rn G RX12 cX12_looks 6 none false (yb_rm 6) (yb_qv X out) 0 0 85 [some (.ref (yb_ad G 176)), some (.int x1), some (.int x2), some (.int x3), some (.int x4), some (.int x5)] [] (yb_mk s X) := t_l_X12_looks_85 hrc9 _ _ _ _ h
set_option maxHeartbeats 4000000 in
set_option maxRecDepth 20000 in
theorem tj_X12_looks_80 {G : yb_G} {X : List (FieldType × Nat)} {rc9 : (Int32 → Int32 → Int32 → Int32 → yb_S → Option yb_S)} {x1 : Int32} {x2 : Int32} {x4 : Int32} {y0 : Int32} {y1 : Int32} {s : yb_S} {out : yb_S} (hrc9 : ∀ (x1' : Int32) (x2' : Int32) (x3' : Int32) (x4' : Int32) (s' : yb_S), rc9 x1' x2' x3' x4' s' = some out → Rn G RX12 cX12_looks 6 none false (yb_rm 6) (yb_qv X out) 0 0 9 [some (.ref (yb_ad G 176)), some (.int x1'), some (.int x2'), some (.int x3'), some (.int x4'), none] [] (yb_mk s' X)) (h : j_X12_looks_80 rc9 x1 x2 x4 y0 y1 s = some out) : Rn G RX12 cX12_looks 6 none false (yb_rm 6) (yb_qv X out) 0 0 80 [some (.ref (yb_ad G 176)), some (.int x1), some (.int x2), none, some (.int x4), none] [.int y0, .int y1] (yb_mk s X) := by
  unfold j_X12_looks_80 at h
  refine n_iadd dX12_looks_80 ?_
  refine n_istore_n (i := 3) (vs' := [some (.ref (yb_ad G 176)), some (.int x1), some (.int x2), some (.int (y1 + y0)), some (.int x4), none]) dX12_looks_81 rfl (Nat.le_of_ble_eq_true rfl) rfl rfl ?_
  refine n_iconst (0 : Int32) dX12_looks_82 ic_0 ?_
  refine n_istore (i := 5) (vs' := [some (.ref (yb_ad G 176)), some (.int x1), some (.int x2), some (.int (y1 + y0)), some (.int x4), some (.int (0 : Int32))]) dX12_looks_83 (Nat.le_of_ble_eq_true rfl) rfl rfl ?_
  exact p_jump (tl_X12_looks_85 hrc9 h) (And.intro rfl (And.intro rfl (And.intro rfl (And.intro rfl (And.intro rfl (And.intro rfl trivial))))))
set_option maxHeartbeats 4000000 in
set_option maxRecDepth 20000 in
theorem t_l_X12_looks_9 {G : yb_G} {X : List (FieldType × Nat)} {out : yb_S} : ∀ (k0 : Nat) (x1 : Int32) (x2 : Int32) (x3 : Int32) (x4 : Int32) (s : yb_S), l_X12_looks_9 k0 x1 x2 x3 x4 s = some out → Rn G RX12 cX12_looks 6 none false (yb_rm 6) (yb_qv X out) 0 0 9 [some (.ref (yb_ad G 176)), some (.int x1), some (.int x2), some (.int x3), some (.int x4), none] [] (yb_mk s X) := by
  intro k0
  induction k0 with
  | zero => intro x1 x2 x3 x4 s h; cases h
  | succ k0 ih =>
    intro x1 x2 x3 x4 s h
    have h : f_X12_looks_9 (fun x1 x2 x3 x4 s => l_X12_looks_9 k0 x1 x2 x3 x4 s) x1 x2 x3 x4 s = some out := h
    have hrc9 := ih
    unfold f_X12_looks_9 at h
    refine n_iload dX12_looks_9 rfl ?_
    refine n_aload_n (i := 0) dX12_looks_11 rfl rfl ?_
    refine p_geti fl_X12_547 (sh_176 _ _) rfl dX12_looks_12 ?_
    refine n_icmp_ge 171 dX12_looks_15 (by decide) (fun c1 => ?_) (fun c1 => ?_)
    · have h := yb_ifp c1 h
      refine n_iload_n (i := 1) dX12_looks_171 rfl rfl ?_
      refine n_aload_n (i := 0) dX12_looks_172 rfl rfl ?_
      refine p_geti fl_X12_550 (sh_176 _ _) rfl dX12_looks_173 ?_
      refine n_icmp_lt 211 dX12_looks_176 (by decide) (fun c2 => ?_) (fun c2 => ?_)
      · have h := yb_ifp c2 h
        cases h
        exact n_vret dX12_looks_211 rfl (Nat.le_refl _) (Nat.le_refl _) ⟨rfl, rfl⟩
      · have h := yb_ifn c2 h
        refine n_iload_n (i := 1) dX12_looks_179 rfl rfl ?_
        refine n_aload_n (i := 0) dX12_looks_180 rfl rfl ?_
        refine p_geti fl_X12_550 (sh_176 _ _) rfl dX12_looks_181 ?_
        refine n_icmp_ne 212 dX12_looks_184 (by decide) (fun c3 => ?_) (fun c3 => ?_)
        · have h := yb_ifn c3 h
          exact p_jump (tj_X12_looks_212 h) (And.intro rfl (And.intro rfl (And.intro rfl (And.intro rfl trivial))))
        · have h := yb_ifp c3 h
          refine n_iload_n (i := 2) dX12_looks_187 rfl rfl ?_
          refine n_aload_n (i := 0) dX12_looks_188 rfl rfl ?_
          refine p_geti fl_X12_553 (sh_176 _ _) rfl dX12_looks_189 ?_
          refine n_icmp_lt 211 dX12_looks_192 (by decide) (fun c10 => ?_) (fun c10 => ?_)
          · have h := yb_ifp c10 h
            cases h
            exact n_vret dX12_looks_211 rfl (Nat.le_refl _) (Nat.le_refl _) ⟨rfl, rfl⟩
          · have h := yb_ifn c10 h
            refine n_iload_n (i := 2) dX12_looks_195 rfl rfl ?_
            refine n_aload_n (i := 0) dX12_looks_196 rfl rfl ?_
            refine p_geti fl_X12_553 (sh_176 _ _) rfl dX12_looks_197 ?_
            refine n_icmp_ne 212 dX12_looks_200 (by decide) (fun c11 => ?_) (fun c11 => ?_)
            · have h := yb_ifn c11 h
              exact p_jump (tj_X12_looks_212 h) (And.intro rfl (And.intro rfl (And.intro rfl (And.intro rfl trivial))))
            · have h := yb_ifp c11 h
              refine n_iload_n (i := 3) dX12_looks_203 rfl rfl ?_
              refine n_aload_n (i := 0) dX12_looks_204 rfl rfl ?_
              refine p_geti fl_X12_556 (sh_176 _ _) rfl dX12_looks_205 ?_
              refine n_icmp_gt 212 dX12_looks_208 (by decide) (fun c12 => ?_) (fun c12 => ?_)
              · have h := yb_ifp c12 h
                exact p_jump (tj_X12_looks_212 h) (And.intro rfl (And.intro rfl (And.intro rfl (And.intro rfl trivial))))
              · have h := yb_ifn c12 h
                cases h
                exact n_vret dX12_looks_211 rfl (Nat.le_refl _) (Nat.le_refl _) ⟨rfl, rfl⟩
    · have h := yb_ifn c1 h
      refine n_aload_n (i := 0) dX12_looks_18 rfl rfl ?_
      refine p_getr fl_X12_223 (sh_176 _ _) rfl (rR_176_72 _ _) dX12_looks_19 ?_
      refine n_iload dX12_looks_22 rfl ?_
      obtain ⟨v13, hv13, h⟩ := yb_bind h
      refine p_iald hv13 (sh_596 _ _) dX12_looks_24 ?_
      refine n_iconst (-1 : Int32) dX12_looks_25 ic_m1 ?_
      refine n_icmp_ne 32 dX12_looks_26 (by decide) (fun c14 => ?_) (fun c14 => ?_)
      · have h := yb_ifn c14 h
        refine n_iload_n (i := 1) dX12_looks_32 rfl rfl ?_
        refine n_aload_n (i := 0) dX12_looks_33 rfl rfl ?_
        refine p_getr fl_X12_48 (sh_176 _ _) rfl (rR_176_16 _ _) dX12_looks_34 ?_
        refine n_aload_n (i := 0) dX12_looks_37 rfl rfl ?_
        refine p_getr fl_X12_211 (sh_176 _ _) rfl (rR_176_68 _ _) dX12_looks_38 ?_
        refine n_iload dX12_looks_41 rfl ?_
        obtain ⟨v15, hv15, h⟩ := yb_bind h
        refine p_iald hv15 (sh_592 _ _) dX12_looks_43 ?_
        obtain ⟨v16, hv16, h⟩ := yb_bind h
        refine p_iald hv16 (sh_189 _ _) dX12_looks_44 ?_
        refine n_iadd dX12_looks_45 ?_
        refine n_istore_n (i := 1) (vs' := [some (.ref (yb_ad G 176)), some (.int (x1 + v16)), some (.int x2), some (.int x3), some (.int x4), none]) dX12_looks_46 rfl (Nat.le_of_ble_eq_true rfl) rfl rfl ?_
        refine n_iload_n (i := 3) dX12_looks_47 rfl rfl ?_
        refine n_aload_n (i := 0) dX12_looks_48 rfl rfl ?_
        refine p_getr fl_X12_78 (sh_176 _ _) rfl (rR_176_26 _ _) dX12_looks_49 ?_
        refine n_aload_n (i := 0) dX12_looks_52 rfl rfl ?_
        refine p_getr fl_X12_211 (sh_176 _ _) rfl (rR_176_68 _ _) dX12_looks_53 ?_
        refine n_iload dX12_looks_56 rfl ?_
        obtain ⟨v17, hv17, h⟩ := yb_bind h
        refine p_iald hv17 (sh_592 _ _) dX12_looks_58 ?_
        obtain ⟨v18, hv18, h⟩ := yb_bind h
        refine p_iald hv18 (sh_199 _ _) dX12_looks_59 ?_
        refine n_aload_n (i := 0) dX12_looks_60 rfl rfl ?_
        refine p_getr fl_X12_30 (sh_176 _ _) rfl (rR_176_9 _ _) dX12_looks_61 ?_
        refine n_aload_n (i := 0) dX12_looks_64 rfl rfl ?_
        refine p_getr fl_X12_223 (sh_176 _ _) rfl (rR_176_72 _ _) dX12_looks_65 ?_
        refine n_iload dX12_looks_68 rfl ?_
        obtain ⟨v19, hv19, h⟩ := yb_bind h
        refine p_iald hv19 (sh_596 _ _) dX12_looks_70 ?_
        obtain ⟨v20, hv20, h⟩ := yb_bind h
        refine p_iald hv20 (sh_183 _ _) dX12_looks_71 ?_
        refine n_icmp_ne 79 dX12_looks_72 (by decide) (fun c21 => ?_) (fun c21 => ?_)
        · have h := yb_ifn c21 h
          refine n_iconst (0 : Int32) dX12_looks_79 ic_0 ?_
          exact p_jump (tj_X12_looks_80 hrc9 h) (And.intro rfl (And.intro rfl (And.intro rfl (And.intro rfl trivial))))
        · have h := yb_ifp c21 h
          refine n_iconst (1 : Int32) dX12_looks_75 ic_1 ?_
          refine n_goto 80 dX12_looks_76 (by decide) ?_
          exact p_jump (tj_X12_looks_80 hrc9 h) (And.intro rfl (And.intro rfl (And.intro rfl (And.intro rfl trivial))))
      · have h := yb_ifp c14 h
        refine n_goto 165 dX12_looks_29 (by decide) ?_
        exact p_jump (tj_X12_looks_165 hrc9 h) (And.intro rfl (And.intro rfl (And.intro rfl (And.intro rfl (And.intro rfl trivial)))))
set_option maxHeartbeats 4000000 in
set_option maxRecDepth 20000 in
theorem tl_X12_looks_9 {G : yb_G} {X : List (FieldType × Nat)} {out : yb_S} {x1 : Int32} {x2 : Int32} {x3 : Int32} {x4 : Int32} {s : yb_S} (h : l_X12_looks_9 yb_N x1 x2 x3 x4 s = some out) : Rn G RX12 cX12_looks 6 none false (yb_rm 6) (yb_qv X out) 0 0 9 [some (.ref (yb_ad G 176)), some (.int x1), some (.int x2), some (.int x3), some (.int x4), none] [] (yb_mk s X) := t_l_X12_looks_9 _ _ _ _ _ _ h
set_option maxHeartbeats 4000000 in
set_option maxRecDepth 20000 in
theorem t_X12_looks {G : yb_G} {X : List (FieldType × Nat)} {s : yb_S} {out : yb_S} (h : f_X12_looks s = some out) : Ct G yX12_looks cX12_looks 6 none (yb_rm 6) [.ref (yb_ad G 176)] (yb_mk s X) (yb_qv X out) := by
  refine Ct.of (own := RX12) (ini := false) (vs := [some (.ref (yb_ad G 176)), none, none, none, none, none]) ⟨rfl, by decide +kernel⟩ (fun h => by cases h) (Nat.le_of_ble_eq_true rfl) rfl ?_
  unfold f_X12_looks at h
  refine n_iconst (0 : Int32) dX12_looks_0 ic_0 ?_
  refine n_istore_n (i := 1) (vs' := [some (.ref (yb_ad G 176)), some (.int (0 : Int32)), none, none, none, none]) dX12_looks_1 rfl (Nat.le_of_ble_eq_true rfl) rfl rfl ?_
  refine n_iconst (0 : Int32) dX12_looks_2 ic_0 ?_
  refine n_istore_n (i := 2) (vs' := [some (.ref (yb_ad G 176)), some (.int (0 : Int32)), some (.int (0 : Int32)), none, none, none]) dX12_looks_3 rfl (Nat.le_of_ble_eq_true rfl) rfl rfl ?_
  refine n_iconst (0 : Int32) dX12_looks_4 ic_0 ?_
  refine n_istore_n (i := 3) (vs' := [some (.ref (yb_ad G 176)), some (.int (0 : Int32)), some (.int (0 : Int32)), some (.int (0 : Int32)), none, none]) dX12_looks_5 rfl (Nat.le_of_ble_eq_true rfl) rfl rfl ?_
  refine n_iconst (0 : Int32) dX12_looks_6 ic_0 ?_
  refine n_istore (i := 4) (vs' := [some (.ref (yb_ad G 176)), some (.int (0 : Int32)), some (.int (0 : Int32)), some (.int (0 : Int32)), some (.int (0 : Int32)), none]) dX12_looks_7 (Nat.le_of_ble_eq_true rfl) rfl rfl ?_
  exact p_jump (tl_X12_looks_9 h) (And.intro rfl (And.intro rfl (And.intro rfl (And.intro rfl (And.intro rfl trivial)))))
set_option maxHeartbeats 4000000 in
set_option maxRecDepth 20000 in
theorem tj_X12_tries_91 {G : yb_G} {X : List (FieldType × Nat)} {r_X12_tries : (Int32 → yb_S → Option yb_S)} {n : Nat} {rc15 : (Int32 → yb_S → Option yb_S)} {x1 : Int32} {x2 : Int32} {s : yb_S} {out : yb_S} (H_X12_tries : ∀ (a1 : Int32) (s : yb_S) (out : yb_S), r_X12_tries a1 s = some out → Ct G yX12_tries cX12_tries 3 none (yb_rm (9 + n)) [.ref (yb_ad G 176), .int a1] (yb_mk s X) (yb_qv X out)) (hrc15 : ∀ (x2' : Int32) (s' : yb_S), rc15 x2' s' = some out → Rn G RX12 cX12_tries 3 none false (yb_rm (10 + n)) (yb_qv X out) 0 0 15 [some (.ref (yb_ad G 176)), some (.int x1), some (.int x2')] [] (yb_mk s' X)) (h : j_X12_tries_91 r_X12_tries rc15 x1 x2 s = some out) : Rn G RX12 cX12_tries 3 none false (yb_rm (10 + n)) (yb_qv X out) 0 0 91 [some (.ref (yb_ad G 176)), some (.int x1), some (.int x2)] [] (yb_mk s X) := by
  unfold j_X12_tries_91 at h
  refine n_iinc (vs' := [some (.ref (yb_ad G 176)), some (.int x1), some (.int (x2 + (1 : Int32)))]) dX12_tries_91 rfl (ii_1 _) (Nat.le_of_ble_eq_true rfl) rfl rfl ?_
  refine n_goto 15 dX12_tries_94 (by decide) ?_
  exact p_jump (hrc15 (x2 + (1 : Int32)) s h) (And.intro rfl (And.intro rfl (And.intro rfl trivial)))
set_option maxHeartbeats 4000000 in
set_option maxRecDepth 20000 in
theorem t_l_X12_tries_15 {G : yb_G} {X : List (FieldType × Nat)} {r_X12_tries : (Int32 → yb_S → Option yb_S)} {n : Nat} {x1 : Int32} {out : yb_S} (H_X12_tries : ∀ (a1 : Int32) (s : yb_S) (out : yb_S), r_X12_tries a1 s = some out → Ct G yX12_tries cX12_tries 3 none (yb_rm (9 + n)) [.ref (yb_ad G 176), .int a1] (yb_mk s X) (yb_qv X out)) : ∀ (k0 : Nat) (x2 : Int32) (s : yb_S), l_X12_tries_15 r_X12_tries x1 k0 x2 s = some out → Rn G RX12 cX12_tries 3 none false (yb_rm (10 + n)) (yb_qv X out) 0 0 15 [some (.ref (yb_ad G 176)), some (.int x1), some (.int x2)] [] (yb_mk s X) := by
  intro k0
  induction k0 with
  | zero => intro x2 s h; cases h
  | succ k0 ih =>
    intro x2 s h
    have h : f_X12_tries_15 r_X12_tries (fun x2 s => l_X12_tries_15 r_X12_tries x1 k0 x2 s) x1 x2 s = some out := h
    have hrc15 := ih
    unfold f_X12_tries_15 at h
    refine n_iload_n (i := 2) dX12_tries_15 rfl rfl ?_
    refine n_aload_n (i := 0) dX12_tries_16 rfl rfl ?_
    refine p_geti fl_X12_562 (sh_176 _ _) rfl dX12_tries_17 ?_
    refine n_icmp_ge 97 dX12_tries_20 (by decide) (fun c2 => ?_) (fun c2 => ?_)
    · have h := yb_ifp c2 h
      refine n_aload_n (i := 0) dX12_tries_97 rfl rfl ?_
      refine p_getr fl_X12_223 (sh_176 _ _) rfl (rR_176_72 _ _) dX12_tries_98 ?_
      refine n_iload_n (i := 1) dX12_tries_101 rfl rfl ?_
      refine n_iconst (-1 : Int32) dX12_tries_102 ic_m1 ?_
      obtain ⟨s3, hs3, h⟩ := yb_bind h
      refine p_iast hs3 (sh_596 _ _) dX12_tries_103 ?_
      refine n_aload_n (i := 0) dX12_tries_104 rfl rfl ?_
      refine n_iload_n (i := 1) dX12_tries_105 rfl rfl ?_
      refine n_iconst (1 : Int32) dX12_tries_106 ic_1 ?_
      refine n_iadd dX12_tries_107 ?_
      obtain ⟨q4, hq4, h⟩ := yb_bind h
      refine p_callVv (As := [.int (x1 + (1 : Int32))]) (H_X12_tries (x1 + (1 : Int32)) _ _ hq4) cv_X12_565 (sh_176 _ _) rfl rfl (Nat.le_of_ble_eq_true rfl) dX12_tries_108 (yb_rok (by omega) (by decide)) ⟨rfl, rfl⟩ ⟨Nat.le_refl _, Nat.le_refl _⟩ (fun k5 => ?_)
      cases h
      exact n_vret dX12_tries_111 rfl (Nat.le_refl _) (Nat.le_refl _) ⟨rfl, rfl⟩
    · have h := yb_ifn c2 h
      refine n_aload_n (i := 0) dX12_tries_23 rfl rfl ?_
      refine n_aload_n (i := 0) dX12_tries_24 rfl rfl ?_
      refine p_getr fl_X12_211 (sh_176 _ _) rfl (rR_176_68 _ _) dX12_tries_25 ?_
      refine n_iload_n (i := 1) dX12_tries_28 rfl rfl ?_
      obtain ⟨v6, hv6, h⟩ := yb_bind h
      refine p_iald hv6 (sh_592 _ _) dX12_tries_29 ?_
      refine n_aload_n (i := 0) dX12_tries_30 rfl rfl ?_
      refine p_getr fl_X12_214 (sh_176 _ _) rfl (rR_176_69 _ _) dX12_tries_31 ?_
      refine n_iload_n (i := 2) dX12_tries_34 rfl rfl ?_
      obtain ⟨v7, hv7, h⟩ := yb_bind h
      refine p_iald hv7 (sh_593 _ _) dX12_tries_35 ?_
      obtain ⟨q8, hq8, h⟩ := yb_bind h
      refine p_callVi (As := [.int v6, .int v7]) (t_X12_barOf hq8) cv_X12_509 (sh_176 _ _) rfl rfl (Nat.le_of_ble_eq_true rfl) dX12_tries_36 (yb_rok (by omega) (by decide)) ⟨rfl, rfl⟩ ⟨Nat.le_refl _, Nat.le_refl _⟩ (fun k9 => ?_)
      refine n_if_eq 45 dX12_tries_39 (by decide) (fun c10 => ?_) (fun c10 => ?_)
      · have h := yb_ifp c10 h
        refine n_aload_n (i := 0) dX12_tries_45 rfl rfl ?_
        refine p_getr fl_X12_223 (sh_176 _ _) rfl (rR_176_72 _ _) dX12_tries_46 ?_
        refine n_iload_n (i := 1) dX12_tries_49 rfl rfl ?_
        refine n_aload_n (i := 0) dX12_tries_50 rfl rfl ?_
        refine p_getr fl_X12_214 (sh_176 _ _) rfl (rR_176_69 _ _) dX12_tries_51 ?_
        refine n_iload_n (i := 2) dX12_tries_54 rfl rfl ?_
        obtain ⟨v11, hv11, h⟩ := yb_bind h
        refine p_iald hv11 (sh_593 _ _) dX12_tries_55 ?_
        obtain ⟨s12, hs12, h⟩ := yb_bind h
        refine p_iast hs12 (sh_596 _ _) dX12_tries_56 ?_
        refine n_aload_n (i := 0) dX12_tries_57 rfl rfl ?_
        refine n_aload_n (i := 0) dX12_tries_58 rfl rfl ?_
        refine p_getr fl_X12_211 (sh_176 _ _) rfl (rR_176_68 _ _) dX12_tries_59 ?_
        refine n_iload_n (i := 1) dX12_tries_62 rfl rfl ?_
        obtain ⟨v13, hv13, h⟩ := yb_bind h
        refine p_iald hv13 (sh_592 _ _) dX12_tries_63 ?_
        refine n_aload_n (i := 0) dX12_tries_64 rfl rfl ?_
        refine p_getr fl_X12_214 (sh_176 _ _) rfl (rR_176_69 _ _) dX12_tries_65 ?_
        refine n_iload_n (i := 2) dX12_tries_68 rfl rfl ?_
        obtain ⟨v14, hv14, h⟩ := yb_bind h
        refine p_iald hv14 (sh_593 _ _) dX12_tries_69 ?_
        obtain ⟨q15, hq15, h⟩ := yb_bind h
        refine p_callVv (As := [.int v13, .int v14]) (t_X12_houses hq15) cv_X12_521 (sh_176 _ _) rfl rfl (Nat.le_of_ble_eq_true rfl) dX12_tries_70 (yb_rok (by omega) (by decide)) ⟨rfl, rfl⟩ ⟨Nat.le_refl _, Nat.le_refl _⟩ (fun k16 => ?_)
        refine n_aload_n (i := 0) dX12_tries_73 rfl rfl ?_
        refine n_iload_n (i := 1) dX12_tries_74 rfl rfl ?_
        refine n_iconst (1 : Int32) dX12_tries_75 ic_1 ?_
        refine n_iadd dX12_tries_76 ?_
        obtain ⟨q17, hq17, h⟩ := yb_bind h
        refine p_callVv (As := [.int (x1 + (1 : Int32))]) (H_X12_tries (x1 + (1 : Int32)) _ _ hq17) cv_X12_565 (sh_176 _ _) rfl rfl (Nat.le_of_ble_eq_true rfl) dX12_tries_77 (yb_rok (by omega) (by decide)) ⟨rfl, rfl⟩ ⟨Nat.le_refl _, Nat.le_refl _⟩ (fun k18 => ?_)
        refine n_aload_n (i := 0) dX12_tries_80 rfl rfl ?_
        refine n_aload_n (i := 0) dX12_tries_81 rfl rfl ?_
        refine p_getr fl_X12_211 (sh_176 _ _) rfl (rR_176_68 _ _) dX12_tries_82 ?_
        refine n_iload_n (i := 1) dX12_tries_85 rfl rfl ?_
        obtain ⟨v19, hv19, h⟩ := yb_bind h
        refine p_iald hv19 (sh_592 _ _) dX12_tries_86 ?_
        refine n_iconst (-1 : Int32) dX12_tries_87 ic_m1 ?_
        obtain ⟨q20, hq20, h⟩ := yb_bind h
        refine p_callVv (As := [.int v19, .int (-1 : Int32)]) (t_X12_houses hq20) cv_X12_521 (sh_176 _ _) rfl rfl (Nat.le_of_ble_eq_true rfl) dX12_tries_88 (yb_rok (by omega) (by decide)) ⟨rfl, rfl⟩ ⟨Nat.le_refl _, Nat.le_refl _⟩ (fun k21 => ?_)
        exact p_jump (tj_X12_tries_91 H_X12_tries hrc15 h) (And.intro rfl (And.intro rfl (And.intro rfl trivial)))
      · have h := yb_ifn c10 h
        refine n_goto 91 dX12_tries_42 (by decide) ?_
        exact p_jump (tj_X12_tries_91 H_X12_tries hrc15 h) (And.intro rfl (And.intro rfl (And.intro rfl trivial)))
set_option maxHeartbeats 4000000 in
set_option maxRecDepth 20000 in
theorem tl_X12_tries_15 {G : yb_G} {X : List (FieldType × Nat)} {r_X12_tries : (Int32 → yb_S → Option yb_S)} {n : Nat} {x1 : Int32} {out : yb_S} (H_X12_tries : ∀ (a1 : Int32) (s : yb_S) (out : yb_S), r_X12_tries a1 s = some out → Ct G yX12_tries cX12_tries 3 none (yb_rm (9 + n)) [.ref (yb_ad G 176), .int a1] (yb_mk s X) (yb_qv X out)) {x2 : Int32} {s : yb_S} (h : l_X12_tries_15 r_X12_tries x1 yb_N x2 s = some out) : Rn G RX12 cX12_tries 3 none false (yb_rm (10 + n)) (yb_qv X out) 0 0 15 [some (.ref (yb_ad G 176)), some (.int x1), some (.int x2)] [] (yb_mk s X) := t_l_X12_tries_15 H_X12_tries _ _ _ h
set_option maxHeartbeats 4000000 in
set_option maxRecDepth 20000 in
theorem t_X12_tries {G : yb_G} {X : List (FieldType × Nat)} {r_X12_tries : (Int32 → yb_S → Option yb_S)} {n : Nat} {a1 : Int32} {s : yb_S} {out : yb_S} (H_X12_tries : ∀ (a1 : Int32) (s : yb_S) (out : yb_S), r_X12_tries a1 s = some out → Ct G yX12_tries cX12_tries 3 none (yb_rm (9 + n)) [.ref (yb_ad G 176), .int a1] (yb_mk s X) (yb_qv X out)) (h : f_X12_tries r_X12_tries a1 s = some out) : Ct G yX12_tries cX12_tries 3 none (yb_rm (10 + n)) [.ref (yb_ad G 176), .int a1] (yb_mk s X) (yb_qv X out) := by
  refine Ct.of (own := RX12) (ini := false) (vs := [some (.ref (yb_ad G 176)), some (.int a1), none]) ⟨rfl, by decide +kernel⟩ (fun h => by cases h) (Nat.le_of_ble_eq_true rfl) rfl ?_
  unfold f_X12_tries at h
  refine n_iload_n (i := 1) dX12_tries_0 rfl rfl ?_
  refine n_aload_n (i := 0) dX12_tries_1 rfl rfl ?_
  refine p_geti fl_X12_547 (sh_176 _ _) rfl dX12_tries_2 ?_
  refine n_icmp_ne 13 dX12_tries_5 (by decide) (fun c1 => ?_) (fun c1 => ?_)
  · have h := yb_ifn c1 h
    refine n_iconst (0 : Int32) dX12_tries_13 ic_0 ?_
    refine n_istore_n (i := 2) (vs' := [some (.ref (yb_ad G 176)), some (.int a1), some (.int (0 : Int32))]) dX12_tries_14 rfl (Nat.le_of_ble_eq_true rfl) rfl rfl ?_
    exact p_jump (tl_X12_tries_15 H_X12_tries h) (And.intro rfl (And.intro rfl (And.intro rfl trivial)))
  · have h := yb_ifp c1 h
    refine n_aload_n (i := 0) dX12_tries_8 rfl rfl ?_
    obtain ⟨q22, hq22, h⟩ := yb_bind h
    refine p_callVv (As := []) (t_X12_looks hq22) cv_X12_559 (sh_176 _ _) rfl rfl (Nat.le_of_ble_eq_true rfl) dX12_tries_9 (yb_rok (by omega) (by decide)) ⟨rfl, rfl⟩ ⟨Nat.le_refl _, Nat.le_refl _⟩ (fun k23 => ?_)
    cases h
    exact n_vret dX12_tries_12 rfl (Nat.le_refl _) (Nat.le_refl _) ⟨rfl, rfl⟩
set_option maxHeartbeats 4000000 in
set_option maxRecDepth 20000 in
theorem tg_X12_tries (G : yb_G) (X : List (FieldType × Nat)) : ∀ n : Nat, (∀ (a1 : Int32) (s : yb_S) (out : yb_S), (gg_X12_tries n) a1 s = some out → Ct G yX12_tries cX12_tries 3 none (yb_rm (9 + n)) [.ref (yb_ad G 176), .int a1] (yb_mk s X) (yb_qv X out)) := by
  intro n
  induction n with
  | zero => exact fun _ _ _ h => by cases h
  | succ n ih =>
    have h0 := ih
    rw [show 9 + (n + 1) = 10 + n from by omega]
    exact (fun a1 s out h => t_X12_tries h0 h)
set_option maxHeartbeats 4000000 in
set_option maxRecDepth 20000 in
theorem tt_X12_tries {G : yb_G} {X : List (FieldType × Nat)} {a1 : Int32} {s : yb_S} {out : yb_S} (h : g_X12_tries a1 s = some out) : Ct G yX12_tries cX12_tries 3 none (yb_rm 129) [.ref (yb_ad G 176), .int a1] (yb_mk s X) (yb_qv X out) := (tg_X12_tries G X 120) a1 s out h
