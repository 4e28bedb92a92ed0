def ci_0 : Nat → Nat → Int32 := fun _ _ => 0
def ci_1 : Nat → Nat → Int32 := yb_u ci_0 54 1 (-1 : Int32)
def ci_2 : Nat → Nat → Int32 := yb_u ci_1 176 58 (-1 : Int32)
theorem ci_z0 {x j : Nat} (h1 : x ≠ 54) (h2 : x ≠ 176) : ci_0 x j = 0 := by simp [ci_0, ci_1, ci_2, yb_u, h1, h2]
theorem ci_z1 {x j : Nat} (h1 : x ≠ 54) (h2 : x ≠ 176) : ci_1 x j = 0 := by simp [ci_0, ci_1, ci_2, yb_u, h1, h2]
theorem ci_z2 {x j : Nat} (h1 : x ≠ 54) (h2 : x ≠ 176) : ci_2 x j = 0 := by simp [ci_0, ci_1, ci_2, yb_u, h1, h2]
def cr_0 : Nat → Nat → Option Nat := fun _ _ => none
def cr_1 : Nat → Nat → Option Nat := yb_u cr_0 2 1 (some 3)
def cr_2 : Nat → Nat → Option Nat := yb_u cr_1 2 2 (some 4)
def cr_3 : Nat → Nat → Option Nat := yb_u cr_2 2 3 (some 5)
def cr_4 : Nat → Nat → Option Nat := yb_u cr_3 2 4 (some 6)
def cr_5 : Nat → Nat → Option Nat := yb_u cr_4 2 5 (some 7)
def cr_6 : Nat → Nat → Option Nat := yb_u cr_5 2 6 (some 8)
def cr_7 : Nat → Nat → Option Nat := yb_u cr_6 2 7 (some 9)
def cr_8 : Nat → Nat → Option Nat := yb_u cr_7 2 8 (some 10)
def cr_9 : Nat → Nat → Option Nat := yb_u cr_8 2 9 (some 11)
def cr_10 : Nat → Nat → Option Nat := yb_u cr_9 2 10 (some 12)
def cr_11 : Nat → Nat → Option Nat := yb_u cr_10 1 0 (some 2)
def cr_12 : Nat → Nat → Option Nat := yb_u cr_11 13 1 (some 14)
def cr_13 : Nat → Nat → Option Nat := yb_u cr_12 13 2 (some 15)
def cr_14 : Nat → Nat → Option Nat := yb_u cr_13 13 3 (some 16)
def cr_15 : Nat → Nat → Option Nat := yb_u cr_14 13 4 (some 17)
def cr_16 : Nat → Nat → Option Nat := yb_u cr_15 13 5 (some 18)
def cr_17 : Nat → Nat → Option Nat := yb_u cr_16 13 6 (some 19)
def cr_18 : Nat → Nat → Option Nat := yb_u cr_17 13 7 (some 20)
def cr_19 : Nat → Nat → Option Nat := yb_u cr_18 1 1 (some 13)
def cr_20 : Nat → Nat → Option Nat := yb_u cr_19 21 1 (some 22)
def cr_21 : Nat → Nat → Option Nat := yb_u cr_20 21 2 (some 23)
def cr_22 : Nat → Nat → Option Nat := yb_u cr_21 21 3 (some 24)
def cr_23 : Nat → Nat → Option Nat := yb_u cr_22 21 4 (some 25)
def cr_24 : Nat → Nat → Option Nat := yb_u cr_23 21 5 (some 26)
def cr_25 : Nat → Nat → Option Nat := yb_u cr_24 21 6 (some 27)
def cr_26 : Nat → Nat → Option Nat := yb_u cr_25 21 7 (some 28)
def cr_27 : Nat → Nat → Option Nat := yb_u cr_26 21 8 (some 29)
def cr_28 : Nat → Nat → Option Nat := yb_u cr_27 21 9 (some 30)
def cr_29 : Nat → Nat → Option Nat := yb_u cr_28 21 10 (some 31)
def cr_30 : Nat → Nat → Option Nat := yb_u cr_29 21 11 (some 32)
def cr_31 : Nat → Nat → Option Nat := yb_u cr_30 21 12 (some 33)
def cr_32 : Nat → Nat → Option Nat := yb_fr cr_31 34 6 1
def cr_33 : Nat → Nat → Option Nat := yb_u cr_32 21 13 (some 34)
def cr_34 : Nat → Nat → Option Nat := yb_u cr_33 1 2 (some 21)
def cr_35 : Nat → Nat → Option Nat := yb_u cr_34 41 1 (some 42)
def cr_36 : Nat → Nat → Option Nat := yb_u cr_35 41 2 (some 43)
def cr_37 : Nat → Nat → Option Nat := yb_u cr_36 41 3 (some 44)
def cr_38 : Nat → Nat → Option Nat := yb_u cr_37 41 4 (some 45)
def cr_39 : Nat → Nat → Option Nat := yb_u cr_38 41 5 (some 46)
def cr_40 : Nat → Nat → Option Nat := yb_u cr_39 41 6 (some 47)
def cr_41 : Nat → Nat → Option Nat := yb_u cr_40 41 7 (some 48)
def cr_42 : Nat → Nat → Option Nat := yb_u cr_41 41 9 (some 49)
def cr_43 : Nat → Nat → Option Nat := yb_u cr_42 41 10 (some 50)
def cr_44 : Nat → Nat → Option Nat := yb_u cr_43 41 11 (some 51)
def cr_45 : Nat → Nat → Option Nat := yb_u cr_44 41 12 (some 52)
def cr_46 : Nat → Nat → Option Nat := yb_u cr_45 41 13 (some 53)
def cr_47 : Nat → Nat → Option Nat := yb_u cr_46 1 3 (some 41)
def cr_48 : Nat → Nat → Option Nat := yb_u cr_47 54 2 (some 55)
def cr_49 : Nat → Nat → Option Nat := yb_u cr_48 54 3 (some 56)
def cr_50 : Nat → Nat → Option Nat := yb_fr cr_49 57 10 1
def cr_51 : Nat → Nat → Option Nat := yb_u cr_50 54 4 (some 57)
def cr_52 : Nat → Nat → Option Nat := yb_fr cr_51 68 10 1
def cr_53 : Nat → Nat → Option Nat := yb_u cr_52 54 5 (some 68)
def cr_54 : Nat → Nat → Option Nat := yb_fr cr_53 79 10 1
def cr_55 : Nat → Nat → Option Nat := yb_u cr_54 54 6 (some 79)
def cr_56 : Nat → Nat → Option Nat := yb_u cr_55 54 7 (some 90)
def cr_57 : Nat → Nat → Option Nat := yb_u cr_56 1 4 (some 54)
def cr_58 : Nat → Nat → Option Nat := yb_u cr_57 1 8 (some 91)
def cr_59 : Nat → Nat → Option Nat := yb_u cr_58 0 0 (some 1)
def cr_60 : Nat → Nat → Option Nat := yb_u cr_59 92 3 (some 93)
def cr_61 : Nat → Nat → Option Nat := yb_u cr_60 92 4 (some 94)
def cr_62 : Nat → Nat → Option Nat := yb_u cr_61 92 5 (some 95)
def cr_63 : Nat → Nat → Option Nat := yb_u cr_62 92 6 (some 96)
def cr_64 : Nat → Nat → Option Nat := yb_u cr_63 92 7 (some 97)
def cr_65 : Nat → Nat → Option Nat := yb_u cr_64 92 8 (some 98)
def cr_66 : Nat → Nat → Option Nat := yb_u cr_65 92 9 (some 99)
def cr_67 : Nat → Nat → Option Nat := yb_u cr_66 0 1 (some 92)
def cr_68 : Nat → Nat → Option Nat := yb_u cr_67 100 1 (some 101)
def cr_69 : Nat → Nat → Option Nat := yb_u cr_68 100 2 (some 102)
def cr_70 : Nat → Nat → Option Nat := yb_fr cr_69 103 24 1
def cr_71 : Nat → Nat → Option Nat := yb_u cr_70 100 3 (some 103)
def cr_72 : Nat → Nat → Option Nat := yb_u cr_71 100 0 (some 1)
def cr_73 : Nat → Nat → Option Nat := yb_u cr_72 0 2 (some 100)
def cr_74 : Nat → Nat → Option Nat := yb_u cr_73 128 3 (some 129)
def cr_75 : Nat → Nat → Option Nat := yb_u cr_74 128 8 (some 130)
def cr_76 : Nat → Nat → Option Nat := yb_u cr_75 128 9 (some 131)
def cr_77 : Nat → Nat → Option Nat := yb_u cr_76 128 10 (some 132)
def cr_78 : Nat → Nat → Option Nat := yb_u cr_77 128 11 (some 133)
def cr_79 : Nat → Nat → Option Nat := yb_u cr_78 128 12 (some 134)
def cr_80 : Nat → Nat → Option Nat := yb_u cr_79 128 13 (some 135)
def cr_81 : Nat → Nat → Option Nat := yb_u cr_80 128 14 (some 136)
def cr_82 : Nat → Nat → Option Nat := yb_u cr_81 128 0 (some 1)
def cr_83 : Nat → Nat → Option Nat := yb_u cr_82 0 3 (some 128)
def cr_84 : Nat → Nat → Option Nat := yb_fr cr_83 138 24 1
def cr_85 : Nat → Nat → Option Nat := yb_u cr_84 137 0 (some 138)
def cr_86 : Nat → Nat → Option Nat := yb_fr cr_85 163 8 1
def cr_87 : Nat → Nat → Option Nat := yb_u cr_86 137 1 (some 163)
def cr_88 : Nat → Nat → Option Nat := yb_u cr_87 0 4 (some 137)
def cr_89 : Nat → Nat → Option Nat := yb_u cr_88 172 2 (some 173)
def cr_90 : Nat → Nat → Option Nat := yb_u cr_89 172 3 (some 174)
def cr_91 : Nat → Nat → Option Nat := yb_u cr_90 172 4 (some 175)
def cr_92 : Nat → Nat → Option Nat := yb_u cr_91 0 5 (some 172)
def cr_93 : Nat → Nat → Option Nat := yb_u cr_92 176 0 (some 177)
def cr_94 : Nat → Nat → Option Nat := yb_u cr_93 176 1 (some 178)
def cr_95 : Nat → Nat → Option Nat := yb_u cr_94 176 2 (some 179)
def cr_96 : Nat → Nat → Option Nat := yb_u cr_95 176 3 (some 180)
def cr_97 : Nat → Nat → Option Nat := yb_u cr_96 176 4 (some 181)
def cr_98 : Nat → Nat → Option Nat := yb_u cr_97 176 5 (some 182)
def cr_99 : Nat → Nat → Option Nat := yb_u cr_98 176 9 (some 183)
def cr_100 : Nat → Nat → Option Nat := yb_u cr_99 176 10 (some 184)
def cr_101 : Nat → Nat → Option Nat := yb_u cr_100 176 11 (some 185)
def cr_102 : Nat → Nat → Option Nat := yb_u cr_101 176 12 (some 186)
def cr_103 : Nat → Nat → Option Nat := yb_u cr_102 176 13 (some 187)
def cr_104 : Nat → Nat → Option Nat := yb_u cr_103 176 14 (some 188)
def cr_105 : Nat → Nat → Option Nat := yb_u cr_104 176 16 (some 189)
def cr_106 : Nat → Nat → Option Nat := yb_u cr_105 176 17 (some 190)
def cr_107 : Nat → Nat → Option Nat := yb_u cr_106 176 18 (some 191)
def cr_108 : Nat → Nat → Option Nat := yb_u cr_107 176 19 (some 192)
def cr_109 : Nat → Nat → Option Nat := yb_u cr_108 176 20 (some 193)
def cr_110 : Nat → Nat → Option Nat := yb_u cr_109 176 21 (some 194)
def cr_111 : Nat → Nat → Option Nat := yb_u cr_110 176 22 (some 195)
def cr_112 : Nat → Nat → Option Nat := yb_u cr_111 176 23 (some 196)
def cr_113 : Nat → Nat → Option Nat := yb_u cr_112 176 24 (some 197)
def cr_114 : Nat → Nat → Option Nat := yb_u cr_113 176 25 (some 198)
def cr_115 : Nat → Nat → Option Nat := yb_u cr_114 176 26 (some 199)
def cr_116 : Nat → Nat → Option Nat := yb_fr cr_115 200 6 1
def cr_117 : Nat → Nat → Option Nat := yb_u cr_116 176 28 (some 200)
def cr_118 : Nat → Nat → Option Nat := yb_u cr_117 176 29 (some 207)
def cr_119 : Nat → Nat → Option Nat := yb_u cr_118 176 30 (some 208)
def cr_120 : Nat → Nat → Option Nat := yb_u cr_119 176 31 (some 209)
def cr_121 : Nat → Nat → Option Nat := yb_u cr_120 176 32 (some 210)
def cr_122 : Nat → Nat → Option Nat := yb_u cr_121 176 33 (some 211)
def cr_123 : Nat → Nat → Option Nat := yb_u cr_122 176 34 (some 212)
def cr_124 : Nat → Nat → Option Nat := yb_u cr_123 176 35 (some 213)
def cr_125 : Nat → Nat → Option Nat := yb_u cr_124 176 37 (some 214)
def cr_126 : Nat → Nat → Option Nat := yb_u cr_125 176 38 (some 215)
def cr_127 : Nat → Nat → Option Nat := yb_u cr_126 176 39 (some 216)
def cr_128 : Nat → Nat → Option Nat := yb_fr cr_127 217 24 1
def cr_129 : Nat → Nat → Option Nat := yb_u cr_128 176 41 (some 217)
def cr_130 : Nat → Nat → Option Nat := yb_u cr_129 176 43 (some 242)
def cr_131 : Nat → Nat → Option Nat := yb_fr3 cr_130 243 11 6
def cr_132 : Nat → Nat → Option Nat := yb_u cr_131 176 50 (some 243)
def cr_133 : Nat → Nat → Option Nat := yb_fr cr_132 321 11 1
def cr_134 : Nat → Nat → Option Nat := yb_u cr_133 176 51 (some 321)
def cr_135 : Nat → Nat → Option Nat := yb_u cr_134 176 52 (some 333)
def cr_136 : Nat → Nat → Option Nat := yb_u cr_135 176 53 (some 334)
def cr_137 : Nat → Nat → Option Nat := yb_u cr_136 335 0 (some 100001)
def cr_138 : Nat → Nat → Option Nat := yb_u cr_137 335 1 (some 100002)
def cr_139 : Nat → Nat → Option Nat := yb_u cr_138 335 2 (some 100003)
def cr_140 : Nat → Nat → Option Nat := yb_u cr_139 335 3 (some 100004)
def cr_141 : Nat → Nat → Option Nat := yb_u cr_140 335 4 (some 100005)
def cr_142 : Nat → Nat → Option Nat := yb_u cr_141 335 5 (some 100006)
def cr_143 : Nat → Nat → Option Nat := yb_u cr_142 176 56 (some 335)
def cr_144 : Nat → Nat → Option Nat := yb_u cr_143 336 0 (some 100007)
def cr_145 : Nat → Nat → Option Nat := yb_u cr_144 336 1 (some 100008)
def cr_146 : Nat → Nat → Option Nat := yb_u cr_145 336 2 (some 100009)
def cr_147 : Nat → Nat → Option Nat := yb_u cr_146 336 3 (some 100010)
def cr_148 : Nat → Nat → Option Nat := yb_u cr_147 336 4 (some 100011)
def cr_149 : Nat → Nat → Option Nat := yb_u cr_148 336 5 (some 100012)
def cr_150 : Nat → Nat → Option Nat := yb_u cr_149 336 6 (some 100013)
def cr_151 : Nat → Nat → Option Nat := yb_u cr_150 336 7 (some 100014)
def cr_152 : Nat → Nat → Option Nat := yb_u cr_151 336 8 (some 100015)
def cr_153 : Nat → Nat → Option Nat := yb_u cr_152 336 9 (some 100016)
def cr_154 : Nat → Nat → Option Nat := yb_u cr_153 336 10 (some 100017)
def cr_155 : Nat → Nat → Option Nat := yb_u cr_154 336 11 (some 100018)
def cr_156 : Nat → Nat → Option Nat := yb_u cr_155 336 12 (some 100019)
def cr_157 : Nat → Nat → Option Nat := yb_u cr_156 336 13 (some 100020)
def cr_158 : Nat → Nat → Option Nat := yb_u cr_157 336 14 (some 100021)
def cr_159 : Nat → Nat → Option Nat := yb_u cr_158 336 15 (some 100022)
def cr_160 : Nat → Nat → Option Nat := yb_u cr_159 336 16 (some 100023)
def cr_161 : Nat → Nat → Option Nat := yb_u cr_160 336 17 (some 100024)
def cr_162 : Nat → Nat → Option Nat := yb_u cr_161 176 57 (some 336)
def cr_163 : Nat → Nat → Option Nat := yb_u cr_162 176 59 (some 337)
def cr_164 : Nat → Nat → Option Nat := yb_u cr_163 176 60 (some 338)
def cr_165 : Nat → Nat → Option Nat := yb_u cr_164 176 61 (some 339)
def cr_166 : Nat → Nat → Option Nat := yb_u cr_165 176 62 (some 340)
def cr_167 : Nat → Nat → Option Nat := yb_fr cr_166 341 24 1
def cr_168 : Nat → Nat → Option Nat := yb_u cr_167 176 63 (some 341)
def cr_169 : Nat → Nat → Option Nat := yb_fr cr_168 366 24 1
def cr_170 : Nat → Nat → Option Nat := yb_u cr_169 176 66 (some 366)
def cr_171 : Nat → Nat → Option Nat := yb_fr cr_170 391 200 1
def cr_172 : Nat → Nat → Option Nat := yb_u cr_171 176 67 (some 391)
def cr_173 : Nat → Nat → Option Nat := yb_u cr_172 176 68 (some 592)
def cr_174 : Nat → Nat → Option Nat := yb_u cr_173 176 69 (some 593)
def cr_175 : Nat → Nat → Option Nat := yb_u cr_174 176 70 (some 594)
def cr_176 : Nat → Nat → Option Nat := yb_u cr_175 176 71 (some 595)
def cr_177 : Nat → Nat → Option Nat := yb_u cr_176 176 72 (some 596)
def cr_178 : Nat → Nat → Option Nat := yb_u cr_177 176 73 (some 597)
def cr_179 : Nat → Nat → Option Nat := yb_u cr_178 176 79 (some 598)
def cr_180 : Nat → Nat → Option Nat := yb_u cr_179 176 80 (some 599)
def cr_181 : Nat → Nat → Option Nat := yb_u cr_180 176 81 (some 600)
def cr_182 : Nat → Nat → Option Nat := yb_u cr_181 176 82 (some 601)
def cr_183 : Nat → Nat → Option Nat := yb_u cr_182 176 83 (some 602)
theorem oi_X11 : Cond.methodLink RX11 1 objectInit ∈ yb_gw ∧ Cond.instanceMethod objectInit ∈ yb_gw ∧ Cond.code objectInit ⟨#[0xb1]⟩ 1 none ∈ yb_gw := ⟨(yb_gw_in (yb_t1 _ (List.mem_of_getElem? (i := 25) rfl)) rfl), (yb_gw_in (yb_t1 _ (List.mem_of_getElem? (i := 26) rfl)) rfl), (yb_gw_in (yb_t1 _ (List.mem_of_getElem? (i := 27) rfl)) rfl)⟩
theorem nw_X11_7 : yb_nw RX11 7 8 9 := ⟨RX8, TX8, rfl, (yb_gw_in (yb_t1 _ (List.mem_of_getElem? (i := 28) rfl)) rfl), (yb_gw_in (yb_t1 _ (List.mem_of_getElem? (i := 29) rfl)) rfl), (yb_gw_in (yb_t1 _ (List.mem_of_getElem? (i := 2) rfl)) rfl), lay_8, tyX8_ok⟩
theorem nw_X11_7_f : ∀ j, j < 9 → yb_nf (vwTy 8 j) = true := by decide +kernel
theorem oi_X8 : Cond.methodLink RX8 3 objectInit ∈ yb_gw ∧ Cond.instanceMethod objectInit ∈ yb_gw ∧ Cond.code objectInit ⟨#[0xb1]⟩ 1 none ∈ yb_gw := ⟨(yb_gw_in (yb_t1 _ (List.mem_of_getElem? (i := 33) rfl)) rfl), (yb_gw_in (yb_t1 _ (List.mem_of_getElem? (i := 26) rfl)) rfl), (yb_gw_in (yb_t1 _ (List.mem_of_getElem? (i := 27) rfl)) rfl)⟩
theorem nw_X8_9 : yb_nw RX8 9 10 11 := ⟨RX10, TX10, rfl, (yb_gw_in (yb_t1 _ (List.mem_of_getElem? (i := 34) rfl)) rfl), (yb_gw_in (yb_t1 _ (List.mem_of_getElem? (i := 35) rfl)) rfl), (yb_gw_in (yb_t1 _ (List.mem_of_getElem? (i := 3) rfl)) rfl), lay_10, tyX10_ok⟩
theorem nw_X8_9_f : ∀ j, j < 11 → yb_nf (vwTy 10 j) = true := by decide +kernel
theorem oi_X10 : Cond.methodLink RX10 3 objectInit ∈ yb_gw ∧ Cond.instanceMethod objectInit ∈ yb_gw ∧ Cond.code objectInit ⟨#[0xb1]⟩ 1 none ∈ yb_gw := ⟨(yb_gw_in (yb_t1 _ (List.mem_of_getElem? (i := 39) rfl)) rfl), (yb_gw_in (yb_t1 _ (List.mem_of_getElem? (i := 26) rfl)) rfl), (yb_gw_in (yb_t1 _ (List.mem_of_getElem? (i := 27) rfl)) rfl)⟩
set_option maxHeartbeats 4000000 in
set_option maxRecDepth 20000 in
theorem ctr_X10_init {G : yb_G} : Ct G yX10_init cX10_init 1 none (yb_rmA 1 10 80) [.ref (yb_ad G 2)] (yb_cm ci_0 cr_0 3) (fun v M' => v = none ∧ M' = (yb_cm ci_0 cr_10 13)) := by
  refine Ct.of (own := RX10) (ini := true) (vs := [some (.ref (yb_ad G 2))]) ⟨rfl, by decide +kernel⟩ (fun _ => rfl) (Nat.le_of_ble_eq_true rfl) rfl ?_
  refine n_aload_n (i := 0) dX10_init_0 rfl rfl ?_
  refine n_objInit oi_X10 dX10_init_1 ⟨Nat.le_of_ble_eq_true rfl, Nat.le_of_ble_eq_true rfl⟩ (Nat.le_of_ble_eq_true rfl) ?_
  refine n_aload_n (i := 0) dX10_init_4 rfl rfl ?_
  refine n_bipush (8 : Int32) dX10_init_5 (by decide) ?_
  refine c_arr (id := 3) (n := 8) wA_int rfl (by decide) (by decide) (by decide) rfl (by decide) (fun _ => rfl) (fun _ => rfl) rfl dX10_init_7 ⟨Nat.le_of_ble_eq_true rfl, Nat.le_of_ble_eq_true rfl⟩ ?_
  refine c_putr (id := 2) rfl ff_X10_9 rfl rfl dX10_init_9 ?_
  refine n_aload_n (i := 0) dX10_init_12 rfl rfl ?_
  refine n_bipush (8 : Int32) dX10_init_13 (by decide) ?_
  refine c_arr (id := 4) (n := 8) wA_int rfl (by decide) (by decide) (by decide) rfl (by decide) (fun _ => rfl) (fun _ => rfl) rfl dX10_init_15 ⟨Nat.le_of_ble_eq_true rfl, Nat.le_of_ble_eq_true rfl⟩ ?_
  refine c_putr (id := 2) rfl ff_X10_15 rfl rfl dX10_init_17 ?_
  refine n_aload_n (i := 0) dX10_init_20 rfl rfl ?_
  refine n_bipush (8 : Int32) dX10_init_21 (by decide) ?_
  refine c_arr (id := 5) (n := 8) wA_int rfl (by decide) (by decide) (by decide) rfl (by decide) (fun _ => rfl) (fun _ => rfl) rfl dX10_init_23 ⟨Nat.le_of_ble_eq_true rfl, Nat.le_of_ble_eq_true rfl⟩ ?_
  refine c_putr (id := 2) rfl ff_X10_18 rfl rfl dX10_init_25 ?_
  refine n_aload_n (i := 0) dX10_init_28 rfl rfl ?_
  refine n_bipush (8 : Int32) dX10_init_29 (by decide) ?_
  refine c_arr (id := 6) (n := 8) wA_int rfl (by decide) (by decide) (by decide) rfl (by decide) (fun _ => rfl) (fun _ => rfl) rfl dX10_init_31 ⟨Nat.le_of_ble_eq_true rfl, Nat.le_of_ble_eq_true rfl⟩ ?_
  refine c_putr (id := 2) rfl ff_X10_21 rfl rfl dX10_init_33 ?_
  refine n_aload_n (i := 0) dX10_init_36 rfl rfl ?_
  refine n_bipush (8 : Int32) dX10_init_37 (by decide) ?_
  refine c_arr (id := 7) (n := 8) wA_boolean rfl (by decide) (by decide) (by decide) rfl (by decide) (fun _ => rfl) (fun _ => rfl) rfl dX10_init_39 ⟨Nat.le_of_ble_eq_true rfl, Nat.le_of_ble_eq_true rfl⟩ ?_
  refine c_putr (id := 2) rfl ff_X10_24 rfl rfl dX10_init_41 ?_
  refine n_aload_n (i := 0) dX10_init_44 rfl rfl ?_
  refine n_bipush (8 : Int32) dX10_init_45 (by decide) ?_
  refine c_arr (id := 8) (n := 8) wA_int rfl (by decide) (by decide) (by decide) rfl (by decide) (fun _ => rfl) (fun _ => rfl) rfl dX10_init_47 ⟨Nat.le_of_ble_eq_true rfl, Nat.le_of_ble_eq_true rfl⟩ ?_
  refine c_putr (id := 2) rfl ff_X10_28 rfl rfl dX10_init_49 ?_
  refine n_aload_n (i := 0) dX10_init_52 rfl rfl ?_
  refine n_bipush (8 : Int32) dX10_init_53 (by decide) ?_
  refine c_arr (id := 9) (n := 8) wA_int rfl (by decide) (by decide) (by decide) rfl (by decide) (fun _ => rfl) (fun _ => rfl) rfl dX10_init_55 ⟨Nat.le_of_ble_eq_true rfl, Nat.le_of_ble_eq_true rfl⟩ ?_
  refine c_putr (id := 2) rfl ff_X10_31 rfl rfl dX10_init_57 ?_
  refine n_aload_n (i := 0) dX10_init_60 rfl rfl ?_
  refine n_bipush (8 : Int32) dX10_init_61 (by decide) ?_
  refine c_arr (id := 10) (n := 8) wA_int rfl (by decide) (by decide) (by decide) rfl (by decide) (fun _ => rfl) (fun _ => rfl) rfl dX10_init_63 ⟨Nat.le_of_ble_eq_true rfl, Nat.le_of_ble_eq_true rfl⟩ ?_
  refine c_putr (id := 2) rfl ff_X10_34 rfl rfl dX10_init_65 ?_
  refine n_aload_n (i := 0) dX10_init_68 rfl rfl ?_
  refine n_bipush (8 : Int32) dX10_init_69 (by decide) ?_
  refine c_arr (id := 11) (n := 8) wA_int rfl (by decide) (by decide) (by decide) rfl (by decide) (fun _ => rfl) (fun _ => rfl) rfl dX10_init_71 ⟨Nat.le_of_ble_eq_true rfl, Nat.le_of_ble_eq_true rfl⟩ ?_
  refine c_putr (id := 2) rfl ff_X10_37 rfl rfl dX10_init_73 ?_
  refine n_aload_n (i := 0) dX10_init_76 rfl rfl ?_
  refine n_bipush (8 : Int32) dX10_init_77 (by decide) ?_
  refine c_arr (id := 12) (n := 8) wA_long rfl (by decide) (by decide) (by decide) rfl (by decide) (fun _ => rfl) (fun _ => rfl) rfl dX10_init_79 ⟨Nat.le_of_ble_eq_true rfl, Nat.le_of_ble_eq_true rfl⟩ ?_
  refine c_putr (id := 2) rfl ff_X10_40 rfl rfl dX10_init_81 ?_
  exact n_vret dX10_init_84 rfl (Nat.le_of_ble_eq_true rfl) (Nat.le_of_ble_eq_true rfl) ⟨rfl, rfl⟩
theorem nw_X8_18 : yb_nw RX8 18 4 8 := ⟨RX4, TX4, rfl, (yb_gw_in (yb_t1 _ (List.mem_of_getElem? (i := 94) rfl)) rfl), (yb_gw_in (yb_t1 _ (List.mem_of_getElem? (i := 95) rfl)) rfl), (yb_gw_in (yb_t1 _ (List.mem_of_getElem? (i := 4) rfl)) rfl), lay_4, tyX4_ok⟩
theorem nw_X8_18_f : ∀ j, j < 8 → yb_nf (vwTy 4 j) = true := by decide +kernel
theorem oi_X4 : Cond.methodLink RX4 3 objectInit ∈ yb_gw ∧ Cond.instanceMethod objectInit ∈ yb_gw ∧ Cond.code objectInit ⟨#[0xb1]⟩ 1 none ∈ yb_gw := ⟨(yb_gw_in (yb_t1 _ (List.mem_of_getElem? (i := 99) rfl)) rfl), (yb_gw_in (yb_t1 _ (List.mem_of_getElem? (i := 26) rfl)) rfl), (yb_gw_in (yb_t1 _ (List.mem_of_getElem? (i := 27) rfl)) rfl)⟩
set_option maxHeartbeats 4000000 in
set_option maxRecDepth 20000 in
theorem ctr_X4_init {G : yb_G} : Ct G yX4_init cX4_init 1 none (yb_rmA 1 7 168) [.ref (yb_ad G 13)] (yb_cm ci_0 cr_11 14) (fun v M' => v = none ∧ M' = (yb_cm ci_0 cr_18 21)) := by
  refine Ct.of (own := RX4) (ini := true) (vs := [some (.ref (yb_ad G 13))]) ⟨rfl, by decide +kernel⟩ (fun _ => rfl) (Nat.le_of_ble_eq_true rfl) rfl ?_
  refine n_aload_n (i := 0) dX4_init_0 rfl rfl ?_
  refine n_objInit oi_X4 dX4_init_1 ⟨Nat.le_of_ble_eq_true rfl, Nat.le_of_ble_eq_true rfl⟩ (Nat.le_of_ble_eq_true rfl) ?_
  refine n_aload_n (i := 0) dX4_init_4 rfl rfl ?_
  refine n_bipush (24 : Int32) dX4_init_5 (by decide) ?_
  refine c_arr (id := 14) (n := 24) wA_int rfl (by decide) (by decide) (by decide) rfl (by decide) (fun _ => rfl) (fun _ => rfl) rfl dX4_init_7 ⟨Nat.le_of_ble_eq_true rfl, Nat.le_of_ble_eq_true rfl⟩ ?_
  refine c_putr (id := 13) rfl ff_X4_9 rfl rfl dX4_init_9 ?_
  refine n_aload_n (i := 0) dX4_init_12 rfl rfl ?_
  refine n_bipush (24 : Int32) dX4_init_13 (by decide) ?_
  refine c_arr (id := 15) (n := 24) wA_int rfl (by decide) (by decide) (by decide) rfl (by decide) (fun _ => rfl) (fun _ => rfl) rfl dX4_init_15 ⟨Nat.le_of_ble_eq_true rfl, Nat.le_of_ble_eq_true rfl⟩ ?_
  refine c_putr (id := 13) rfl ff_X4_15 rfl rfl dX4_init_17 ?_
  refine n_aload_n (i := 0) dX4_init_20 rfl rfl ?_
  refine n_bipush (24 : Int32) dX4_init_21 (by decide) ?_
  refine c_arr (id := 16) (n := 24) wA_int rfl (by decide) (by decide) (by decide) rfl (by decide) (fun _ => rfl) (fun _ => rfl) rfl dX4_init_23 ⟨Nat.le_of_ble_eq_true rfl, Nat.le_of_ble_eq_true rfl⟩ ?_
  refine c_putr (id := 13) rfl ff_X4_18 rfl rfl dX4_init_25 ?_
  refine n_aload_n (i := 0) dX4_init_28 rfl rfl ?_
  refine n_bipush (24 : Int32) dX4_init_29 (by decide) ?_
  refine c_arr (id := 17) (n := 24) wA_int rfl (by decide) (by decide) (by decide) rfl (by decide) (fun _ => rfl) (fun _ => rfl) rfl dX4_init_31 ⟨Nat.le_of_ble_eq_true rfl, Nat.le_of_ble_eq_true rfl⟩ ?_
  refine c_putr (id := 13) rfl ff_X4_21 rfl rfl dX4_init_33 ?_
  refine n_aload_n (i := 0) dX4_init_36 rfl rfl ?_
  refine n_bipush (24 : Int32) dX4_init_37 (by decide) ?_
  refine c_arr (id := 18) (n := 24) wA_int rfl (by decide) (by decide) (by decide) rfl (by decide) (fun _ => rfl) (fun _ => rfl) rfl dX4_init_39 ⟨Nat.le_of_ble_eq_true rfl, Nat.le_of_ble_eq_true rfl⟩ ?_
  refine c_putr (id := 13) rfl ff_X4_24 rfl rfl dX4_init_41 ?_
  refine n_aload_n (i := 0) dX4_init_44 rfl rfl ?_
  refine n_bipush (24 : Int32) dX4_init_45 (by decide) ?_
  refine c_arr (id := 19) (n := 24) wA_int rfl (by decide) (by decide) (by decide) rfl (by decide) (fun _ => rfl) (fun _ => rfl) rfl dX4_init_47 ⟨Nat.le_of_ble_eq_true rfl, Nat.le_of_ble_eq_true rfl⟩ ?_
  refine c_putr (id := 13) rfl ff_X4_27 rfl rfl dX4_init_49 ?_
  refine n_aload_n (i := 0) dX4_init_52 rfl rfl ?_
  refine n_bipush (24 : Int32) dX4_init_53 (by decide) ?_
  refine c_arr (id := 20) (n := 24) wA_int rfl (by decide) (by decide) (by decide) rfl (by decide) (fun _ => rfl) (fun _ => rfl) rfl dX4_init_55 ⟨Nat.le_of_ble_eq_true rfl, Nat.le_of_ble_eq_true rfl⟩ ?_
  refine c_putr (id := 13) rfl ff_X4_30 rfl rfl dX4_init_57 ?_
  exact n_vret dX4_init_60 rfl (Nat.le_of_ble_eq_true rfl) (Nat.le_of_ble_eq_true rfl) ⟨rfl, rfl⟩
theorem nw_X8_25 : yb_nw RX8 25 2 14 := ⟨RX2, TX2, rfl, (yb_gw_in (yb_t1 _ (List.mem_of_getElem? (i := 139) rfl)) rfl), (yb_gw_in (yb_t1 _ (List.mem_of_getElem? (i := 140) rfl)) rfl), (yb_gw_in (yb_t1 _ (List.mem_of_getElem? (i := 5) rfl)) rfl), lay_2, tyX2_ok⟩
theorem nw_X8_25_f : ∀ j, j < 14 → yb_nf (vwTy 2 j) = true := by decide +kernel
theorem oi_X2 : Cond.methodLink RX2 3 objectInit ∈ yb_gw ∧ Cond.instanceMethod objectInit ∈ yb_gw ∧ Cond.code objectInit ⟨#[0xb1]⟩ 1 none ∈ yb_gw := ⟨(yb_gw_in (yb_t1 _ (List.mem_of_getElem? (i := 144) rfl)) rfl), (yb_gw_in (yb_t1 _ (List.mem_of_getElem? (i := 26) rfl)) rfl), (yb_gw_in (yb_t1 _ (List.mem_of_getElem? (i := 27) rfl)) rfl)⟩
theorem wM_X2_48 : Cond.classLink RX2 48 ("[" ++ (FieldType.array .int).toString) ∈ yb_gw := (yb_gw_in (yb_t1 _ (List.mem_of_getElem? (i := 145) rfl)) rfl)
set_option maxHeartbeats 4000000 in
set_option maxRecDepth 20000 in
theorem ctr_X2_init {G : yb_G} : Ct G yX2_init cX2_init 1 none (yb_rmA 1 19 330) [.ref (yb_ad G 21)] (yb_cm ci_0 cr_19 22) (fun v M' => v = none ∧ M' = (yb_cm ci_0 cr_33 41)) := by
  refine Ct.of (own := RX2) (ini := true) (vs := [some (.ref (yb_ad G 21))]) ⟨rfl, by decide +kernel⟩ (fun _ => rfl) (Nat.le_of_ble_eq_true rfl) rfl ?_
  refine n_aload_n (i := 0) dX2_init_0 rfl rfl ?_
  refine n_objInit oi_X2 dX2_init_1 ⟨Nat.le_of_ble_eq_true rfl, Nat.le_of_ble_eq_true rfl⟩ (Nat.le_of_ble_eq_true rfl) ?_
  refine n_aload_n (i := 0) dX2_init_4 rfl rfl ?_
  refine n_bipush (24 : Int32) dX2_init_5 (by decide) ?_
  refine c_arr (id := 22) (n := 24) wA_int rfl (by decide) (by decide) (by decide) rfl (by decide) (fun _ => rfl) (fun _ => rfl) rfl dX2_init_7 ⟨Nat.le_of_ble_eq_true rfl, Nat.le_of_ble_eq_true rfl⟩ ?_
  refine c_putr (id := 21) rfl ff_X2_9 rfl rfl dX2_init_9 ?_
  refine n_aload_n (i := 0) dX2_init_12 rfl rfl ?_
  refine n_bipush (24 : Int32) dX2_init_13 (by decide) ?_
  refine c_arr (id := 23) (n := 24) wA_int rfl (by decide) (by decide) (by decide) rfl (by decide) (fun _ => rfl) (fun _ => rfl) rfl dX2_init_15 ⟨Nat.le_of_ble_eq_true rfl, Nat.le_of_ble_eq_true rfl⟩ ?_
  refine c_putr (id := 21) rfl ff_X2_15 rfl rfl dX2_init_17 ?_
  refine n_aload_n (i := 0) dX2_init_20 rfl rfl ?_
  refine n_bipush (24 : Int32) dX2_init_21 (by decide) ?_
  refine c_arr (id := 24) (n := 24) wA_int rfl (by decide) (by decide) (by decide) rfl (by decide) (fun _ => rfl) (fun _ => rfl) rfl dX2_init_23 ⟨Nat.le_of_ble_eq_true rfl, Nat.le_of_ble_eq_true rfl⟩ ?_
  refine c_putr (id := 21) rfl ff_X2_18 rfl rfl dX2_init_25 ?_
  refine n_aload_n (i := 0) dX2_init_28 rfl rfl ?_
  refine n_bipush (24 : Int32) dX2_init_29 (by decide) ?_
  refine c_arr (id := 25) (n := 24) wA_int rfl (by decide) (by decide) (by decide) rfl (by decide) (fun _ => rfl) (fun _ => rfl) rfl dX2_init_31 ⟨Nat.le_of_ble_eq_true rfl, Nat.le_of_ble_eq_true rfl⟩ ?_
  refine c_putr (id := 21) rfl ff_X2_21 rfl rfl dX2_init_33 ?_
  refine n_aload_n (i := 0) dX2_init_36 rfl rfl ?_
  refine n_bipush (24 : Int32) dX2_init_37 (by decide) ?_
  refine c_arr (id := 26) (n := 24) wA_int rfl (by decide) (by decide) (by decide) rfl (by decide) (fun _ => rfl) (fun _ => rfl) rfl dX2_init_39 ⟨Nat.le_of_ble_eq_true rfl, Nat.le_of_ble_eq_true rfl⟩ ?_
  refine c_putr (id := 21) rfl ff_X2_24 rfl rfl dX2_init_41 ?_
  refine n_aload_n (i := 0) dX2_init_44 rfl rfl ?_
  refine n_bipush (24 : Int32) dX2_init_45 (by decide) ?_
  refine c_arr (id := 27) (n := 24) wA_int rfl (by decide) (by decide) (by decide) rfl (by decide) (fun _ => rfl) (fun _ => rfl) rfl dX2_init_47 ⟨Nat.le_of_ble_eq_true rfl, Nat.le_of_ble_eq_true rfl⟩ ?_
  refine c_putr (id := 21) rfl ff_X2_27 rfl rfl dX2_init_49 ?_
  refine n_aload_n (i := 0) dX2_init_52 rfl rfl ?_
  refine n_bipush (24 : Int32) dX2_init_53 (by decide) ?_
  refine c_arr (id := 28) (n := 24) wA_int rfl (by decide) (by decide) (by decide) rfl (by decide) (fun _ => rfl) (fun _ => rfl) rfl dX2_init_55 ⟨Nat.le_of_ble_eq_true rfl, Nat.le_of_ble_eq_true rfl⟩ ?_
  refine c_putr (id := 21) rfl ff_X2_30 rfl rfl dX2_init_57 ?_
  refine n_aload_n (i := 0) dX2_init_60 rfl rfl ?_
  refine n_bipush (24 : Int32) dX2_init_61 (by decide) ?_
  refine c_arr (id := 29) (n := 24) wA_int rfl (by decide) (by decide) (by decide) rfl (by decide) (fun _ => rfl) (fun _ => rfl) rfl dX2_init_63 ⟨Nat.le_of_ble_eq_true rfl, Nat.le_of_ble_eq_true rfl⟩ ?_
  refine c_putr (id := 21) rfl ff_X2_33 rfl rfl dX2_init_65 ?_
  refine n_aload_n (i := 0) dX2_init_68 rfl rfl ?_
  refine n_bipush (24 : Int32) dX2_init_69 (by decide) ?_
  refine c_arr (id := 30) (n := 24) wA_int rfl (by decide) (by decide) (by decide) rfl (by decide) (fun _ => rfl) (fun _ => rfl) rfl dX2_init_71 ⟨Nat.le_of_ble_eq_true rfl, Nat.le_of_ble_eq_true rfl⟩ ?_
  refine c_putr (id := 21) rfl ff_X2_36 rfl rfl dX2_init_73 ?_
  refine n_aload_n (i := 0) dX2_init_76 rfl rfl ?_
  refine n_bipush (24 : Int32) dX2_init_77 (by decide) ?_
  refine c_arr (id := 31) (n := 24) wA_int rfl (by decide) (by decide) (by decide) rfl (by decide) (fun _ => rfl) (fun _ => rfl) rfl dX2_init_79 ⟨Nat.le_of_ble_eq_true rfl, Nat.le_of_ble_eq_true rfl⟩ ?_
  refine c_putr (id := 21) rfl ff_X2_39 rfl rfl dX2_init_81 ?_
  refine n_aload_n (i := 0) dX2_init_84 rfl rfl ?_
  refine n_bipush (24 : Int32) dX2_init_85 (by decide) ?_
  refine c_arr (id := 32) (n := 24) wA_int rfl (by decide) (by decide) (by decide) rfl (by decide) (fun _ => rfl) (fun _ => rfl) rfl dX2_init_87 ⟨Nat.le_of_ble_eq_true rfl, Nat.le_of_ble_eq_true rfl⟩ ?_
  refine c_putr (id := 21) rfl ff_X2_42 rfl rfl dX2_init_89 ?_
  refine n_aload_n (i := 0) dX2_init_92 rfl rfl ?_
  refine n_bipush (24 : Int32) dX2_init_93 (by decide) ?_
  refine c_arr (id := 33) (n := 24) wA_int rfl (by decide) (by decide) (by decide) rfl (by decide) (fun _ => rfl) (fun _ => rfl) rfl dX2_init_95 ⟨Nat.le_of_ble_eq_true rfl, Nat.le_of_ble_eq_true rfl⟩ ?_
  refine c_putr (id := 21) rfl ff_X2_45 rfl rfl dX2_init_97 ?_
  refine n_aload_n (i := 0) dX2_init_100 rfl rfl ?_
  refine n_bipush (6 : Int32) dX2_init_101 (by decide) ?_
  refine n_bipush (6 : Int32) dX2_init_103 (by decide) ?_
  refine c_mna2 (id := 34) (n := 6) (k := 6) (ty := .int) wM_X2_48 (by decide) wA_int (by decide) (Or.inl rfl) (by decide) (by decide) (by decide) (by decide) (by decide +kernel) (by decide) (fun a j ha => ci_z0 (by omega) (by omega)) (by decide) dX2_init_105 ⟨Nat.le_of_ble_eq_true rfl, Nat.le_of_ble_eq_true rfl⟩ ?_
  refine c_putr (id := 21) rfl ff_X2_50 rfl rfl dX2_init_109 ?_
  exact n_vret dX2_init_112 rfl (Nat.le_of_ble_eq_true rfl) (Nat.le_of_ble_eq_true rfl) ⟨rfl, rfl⟩
theorem nw_X8_32 : yb_nw RX8 32 7 14 := ⟨RX7, TX7, rfl, (yb_gw_in (yb_t1 _ (List.mem_of_getElem? (i := 223) rfl)) rfl), (yb_gw_in (yb_t1 _ (List.mem_of_getElem? (i := 224) rfl)) rfl), (yb_gw_in (yb_t1 _ (List.mem_of_getElem? (i := 6) rfl)) rfl), lay_7, tyX7_ok⟩
theorem nw_X8_32_f : ∀ j, j < 14 → yb_nf (vwTy 7 j) = true := by decide +kernel
theorem oi_X7 : Cond.methodLink RX7 3 objectInit ∈ yb_gw ∧ Cond.instanceMethod objectInit ∈ yb_gw ∧ Cond.code objectInit ⟨#[0xb1]⟩ 1 none ∈ yb_gw := ⟨(yb_gw_in (yb_t1 _ (List.mem_of_getElem? (i := 228) rfl)) rfl), (yb_gw_in (yb_t1 _ (List.mem_of_getElem? (i := 26) rfl)) rfl), (yb_gw_in (yb_t1 _ (List.mem_of_getElem? (i := 27) rfl)) rfl)⟩
set_option maxHeartbeats 4000000 in
set_option maxRecDepth 20000 in
theorem ctr_X7_init {G : yb_G} : Ct G yX7_init cX7_init 1 none (yb_rmA 1 12 588) [.ref (yb_ad G 41)] (yb_cm ci_0 cr_34 42) (fun v M' => v = none ∧ M' = (yb_cm ci_0 cr_46 54)) := by
  refine Ct.of (own := RX7) (ini := true) (vs := [some (.ref (yb_ad G 41))]) ⟨rfl, by decide +kernel⟩ (fun _ => rfl) (Nat.le_of_ble_eq_true rfl) rfl ?_
  refine n_aload_n (i := 0) dX7_init_0 rfl rfl ?_
  refine n_objInit oi_X7 dX7_init_1 ⟨Nat.le_of_ble_eq_true rfl, Nat.le_of_ble_eq_true rfl⟩ (Nat.le_of_ble_eq_true rfl) ?_
  refine n_aload_n (i := 0) dX7_init_4 rfl rfl ?_
  refine n_bipush (60 : Int32) dX7_init_5 (by decide) ?_
  refine c_arr (id := 42) (n := 60) wA_int rfl (by decide) (by decide) (by decide) rfl (by decide) (fun _ => rfl) (fun _ => rfl) rfl dX7_init_7 ⟨Nat.le_of_ble_eq_true rfl, Nat.le_of_ble_eq_true rfl⟩ ?_
  refine c_putr (id := 41) rfl ff_X7_9 rfl rfl dX7_init_9 ?_
  refine n_aload_n (i := 0) dX7_init_12 rfl rfl ?_
  refine n_bipush (60 : Int32) dX7_init_13 (by decide) ?_
  refine c_arr (id := 43) (n := 60) wA_int rfl (by decide) (by decide) (by decide) rfl (by decide) (fun _ => rfl) (fun _ => rfl) rfl dX7_init_15 ⟨Nat.le_of_ble_eq_true rfl, Nat.le_of_ble_eq_true rfl⟩ ?_
  refine c_putr (id := 41) rfl ff_X7_15 rfl rfl dX7_init_17 ?_
  refine n_aload_n (i := 0) dX7_init_20 rfl rfl ?_
  refine n_bipush (60 : Int32) dX7_init_21 (by decide) ?_
  refine c_arr (id := 44) (n := 60) wA_int rfl (by decide) (by decide) (by decide) rfl (by decide) (fun _ => rfl) (fun _ => rfl) rfl dX7_init_23 ⟨Nat.le_of_ble_eq_true rfl, Nat.le_of_ble_eq_true rfl⟩ ?_
  refine c_putr (id := 41) rfl ff_X7_18 rfl rfl dX7_init_25 ?_
  refine n_aload_n (i := 0) dX7_init_28 rfl rfl ?_
  refine n_bipush (60 : Int32) dX7_init_29 (by decide) ?_
  refine c_arr (id := 45) (n := 60) wA_int rfl (by decide) (by decide) (by decide) rfl (by decide) (fun _ => rfl) (fun _ => rfl) rfl dX7_init_31 ⟨Nat.le_of_ble_eq_true rfl, Nat.le_of_ble_eq_true rfl⟩ ?_
  refine c_putr (id := 41) rfl ff_X7_21 rfl rfl dX7_init_33 ?_
  refine n_aload_n (i := 0) dX7_init_36 rfl rfl ?_
  refine n_bipush (60 : Int32) dX7_init_37 (by decide) ?_
  refine c_arr (id := 46) (n := 60) wA_int rfl (by decide) (by decide) (by decide) rfl (by decide) (fun _ => rfl) (fun _ => rfl) rfl dX7_init_39 ⟨Nat.le_of_ble_eq_true rfl, Nat.le_of_ble_eq_true rfl⟩ ?_
  refine c_putr (id := 41) rfl ff_X7_24 rfl rfl dX7_init_41 ?_
  refine n_aload_n (i := 0) dX7_init_44 rfl rfl ?_
  refine n_bipush (60 : Int32) dX7_init_45 (by decide) ?_
  refine c_arr (id := 47) (n := 60) wA_int rfl (by decide) (by decide) (by decide) rfl (by decide) (fun _ => rfl) (fun _ => rfl) rfl dX7_init_47 ⟨Nat.le_of_ble_eq_true rfl, Nat.le_of_ble_eq_true rfl⟩ ?_
  refine c_putr (id := 41) rfl ff_X7_27 rfl rfl dX7_init_49 ?_
  refine n_aload_n (i := 0) dX7_init_52 rfl rfl ?_
  refine n_bipush (60 : Int32) dX7_init_53 (by decide) ?_
  refine c_arr (id := 48) (n := 60) wA_int rfl (by decide) (by decide) (by decide) rfl (by decide) (fun _ => rfl) (fun _ => rfl) rfl dX7_init_55 ⟨Nat.le_of_ble_eq_true rfl, Nat.le_of_ble_eq_true rfl⟩ ?_
  refine c_putr (id := 41) rfl ff_X7_30 rfl rfl dX7_init_57 ?_
  refine n_aload_n (i := 0) dX7_init_60 rfl rfl ?_
  refine n_bipush (40 : Int32) dX7_init_61 (by decide) ?_
  refine c_arr (id := 49) (n := 40) wA_int rfl (by decide) (by decide) (by decide) rfl (by decide) (fun _ => rfl) (fun _ => rfl) rfl dX7_init_63 ⟨Nat.le_of_ble_eq_true rfl, Nat.le_of_ble_eq_true rfl⟩ ?_
  refine c_putr (id := 41) rfl ff_X7_33 rfl rfl dX7_init_65 ?_
  refine n_aload_n (i := 0) dX7_init_68 rfl rfl ?_
  refine n_bipush (40 : Int32) dX7_init_69 (by decide) ?_
  refine c_arr (id := 50) (n := 40) wA_int rfl (by decide) (by decide) (by decide) rfl (by decide) (fun _ => rfl) (fun _ => rfl) rfl dX7_init_71 ⟨Nat.le_of_ble_eq_true rfl, Nat.le_of_ble_eq_true rfl⟩ ?_
  refine c_putr (id := 41) rfl ff_X7_36 rfl rfl dX7_init_73 ?_
  refine n_aload_n (i := 0) dX7_init_76 rfl rfl ?_
  refine n_bipush (40 : Int32) dX7_init_77 (by decide) ?_
  refine c_arr (id := 51) (n := 40) wA_int rfl (by decide) (by decide) (by decide) rfl (by decide) (fun _ => rfl) (fun _ => rfl) rfl dX7_init_79 ⟨Nat.le_of_ble_eq_true rfl, Nat.le_of_ble_eq_true rfl⟩ ?_
  refine c_putr (id := 41) rfl ff_X7_39 rfl rfl dX7_init_81 ?_
  refine n_aload_n (i := 0) dX7_init_84 rfl rfl ?_
  refine n_bipush (24 : Int32) dX7_init_85 (by decide) ?_
  refine c_arr (id := 52) (n := 24) wA_int rfl (by decide) (by decide) (by decide) rfl (by decide) (fun _ => rfl) (fun _ => rfl) rfl dX7_init_87 ⟨Nat.le_of_ble_eq_true rfl, Nat.le_of_ble_eq_true rfl⟩ ?_
  refine c_putr (id := 41) rfl ff_X7_42 rfl rfl dX7_init_89 ?_
  refine n_aload_n (i := 0) dX7_init_92 rfl rfl ?_
  refine n_bipush (24 : Int32) dX7_init_93 (by decide) ?_
  refine c_arr (id := 53) (n := 24) wA_int rfl (by decide) (by decide) (by decide) rfl (by decide) (fun _ => rfl) (fun _ => rfl) rfl dX7_init_95 ⟨Nat.le_of_ble_eq_true rfl, Nat.le_of_ble_eq_true rfl⟩ ?_
  refine c_putr (id := 41) rfl ff_X7_45 rfl rfl dX7_init_97 ?_
  exact n_vret dX7_init_100 rfl (Nat.le_of_ble_eq_true rfl) (Nat.le_of_ble_eq_true rfl) ⟨rfl, rfl⟩
theorem nw_X8_39 : yb_nw RX8 39 5 8 := ⟨RX5, TX5, rfl, (yb_gw_in (yb_t2 _ (List.mem_of_getElem? (i := 40) rfl)) rfl), (yb_gw_in (yb_t2 _ (List.mem_of_getElem? (i := 41) rfl)) rfl), (yb_gw_in (yb_t1 _ (List.mem_of_getElem? (i := 7) rfl)) rfl), lay_5, tyX5_ok⟩
theorem nw_X8_39_f : ∀ j, j < 8 → yb_nf (vwTy 5 j) = true := by decide +kernel
theorem oi_X5 : Cond.methodLink RX5 3 objectInit ∈ yb_gw ∧ Cond.instanceMethod objectInit ∈ yb_gw ∧ Cond.code objectInit ⟨#[0xb1]⟩ 1 none ∈ yb_gw := ⟨(yb_gw_in (yb_t2 _ (List.mem_of_getElem? (i := 45) rfl)) rfl), (yb_gw_in (yb_t1 _ (List.mem_of_getElem? (i := 26) rfl)) rfl), (yb_gw_in (yb_t1 _ (List.mem_of_getElem? (i := 27) rfl)) rfl)⟩
theorem wM_X5_22 : Cond.classLink RX5 22 ("[" ++ (FieldType.array .int).toString) ∈ yb_gw := (yb_gw_in (yb_t2 _ (List.mem_of_getElem? (i := 46) rfl)) rfl)
set_option maxHeartbeats 4000000 in
set_option maxRecDepth 20000 in
theorem ctr_X5_init {G : yb_G} : Ct G yX5_init cX5_init 1 none (yb_rmA 1 36 5234) [.ref (yb_ad G 54)] (yb_cm ci_0 cr_47 55) (fun v M' => v = none ∧ M' = (yb_cm ci_1 cr_56 91)) := by
  refine Ct.of (own := RX5) (ini := true) (vs := [some (.ref (yb_ad G 54))]) ⟨rfl, by decide +kernel⟩ (fun _ => rfl) (Nat.le_of_ble_eq_true rfl) rfl ?_
  refine n_aload_n (i := 0) dX5_init_0 rfl rfl ?_
  refine n_objInit oi_X5 dX5_init_1 ⟨Nat.le_of_ble_eq_true rfl, Nat.le_of_ble_eq_true rfl⟩ (Nat.le_of_ble_eq_true rfl) ?_
  refine n_aload_n (i := 0) dX5_init_4 rfl rfl ?_
  refine n_iconst (-1 : Int32) dX5_init_5 (by decide) ?_
  refine c_puti (id := 54) fp_X5_9 rfl rfl rfl rfl dX5_init_6 ?_
  refine n_aload_n (i := 0) dX5_init_9 rfl rfl ?_
  refine n_bipush (10 : Int32) dX5_init_10 (by decide) ?_
  refine c_arr (id := 55) (n := 10) wA_int rfl (by decide) (by decide) (by decide) rfl (by decide) (fun _ => rfl) (fun _ => rfl) rfl dX5_init_12 ⟨Nat.le_of_ble_eq_true rfl, Nat.le_of_ble_eq_true rfl⟩ ?_
  refine c_putr (id := 54) rfl ff_X5_15 rfl rfl dX5_init_14 ?_
  refine n_aload_n (i := 0) dX5_init_17 rfl rfl ?_
  refine n_bipush (10 : Int32) dX5_init_18 (by decide) ?_
  refine c_arr (id := 56) (n := 10) wA_int rfl (by decide) (by decide) (by decide) rfl (by decide) (fun _ => rfl) (fun _ => rfl) rfl dX5_init_20 ⟨Nat.le_of_ble_eq_true rfl, Nat.le_of_ble_eq_true rfl⟩ ?_
  refine c_putr (id := 54) rfl ff_X5_19 rfl rfl dX5_init_22 ?_
  refine n_aload_n (i := 0) dX5_init_25 rfl rfl ?_
  refine n_bipush (10 : Int32) dX5_init_26 (by decide) ?_
  refine n_sipush (500 : Int32) dX5_init_28 (by decide) ?_
  refine c_mna2 (id := 57) (n := 10) (k := 500) (ty := .int) wM_X5_22 (by decide) wA_int (by decide) (Or.inl rfl) (by decide) (by decide) (by decide) (by decide) (by decide +kernel) (by decide) (fun a j ha => ci_z1 (by omega) (by omega)) (by decide) dX5_init_31 ⟨Nat.le_of_ble_eq_true rfl, Nat.le_of_ble_eq_true rfl⟩ ?_
  refine c_putr (id := 54) rfl ff_X5_24 rfl rfl dX5_init_35 ?_
  refine n_aload_n (i := 0) dX5_init_38 rfl rfl ?_
  refine n_bipush (10 : Int32) dX5_init_39 (by decide) ?_
  refine n_bipush (6 : Int32) dX5_init_41 (by decide) ?_
  refine c_mna2 (id := 68) (n := 10) (k := 6) (ty := .int) wM_X5_22 (by decide) wA_int (by decide) (Or.inl rfl) (by decide) (by decide) (by decide) (by decide) (by decide +kernel) (by decide) (fun a j ha => ci_z1 (by omega) (by omega)) (by decide) dX5_init_43 ⟨Nat.le_of_ble_eq_true rfl, Nat.le_of_ble_eq_true rfl⟩ ?_
  refine c_putr (id := 54) rfl ff_X5_27 rfl rfl dX5_init_47 ?_
  refine n_aload_n (i := 0) dX5_init_50 rfl rfl ?_
  refine n_bipush (10 : Int32) dX5_init_51 (by decide) ?_
  refine n_bipush (6 : Int32) dX5_init_53 (by decide) ?_
  refine c_mna2 (id := 79) (n := 10) (k := 6) (ty := .int) wM_X5_22 (by decide) wA_int (by decide) (Or.inl rfl) (by decide) (by decide) (by decide) (by decide) (by decide +kernel) (by decide) (fun a j ha => ci_z1 (by omega) (by omega)) (by decide) dX5_init_55 ⟨Nat.le_of_ble_eq_true rfl, Nat.le_of_ble_eq_true rfl⟩ ?_
  refine c_putr (id := 54) rfl ff_X5_30 rfl rfl dX5_init_59 ?_
  refine n_aload_n (i := 0) dX5_init_62 rfl rfl ?_
  refine n_bipush (64 : Int32) dX5_init_63 (by decide) ?_
  refine c_arr (id := 90) (n := 64) wA_int rfl (by decide) (by decide) (by decide) rfl (by decide) (fun _ => rfl) (fun _ => rfl) rfl dX5_init_65 ⟨Nat.le_of_ble_eq_true rfl, Nat.le_of_ble_eq_true rfl⟩ ?_
  refine c_putr (id := 54) rfl ff_X5_33 rfl rfl dX5_init_67 ?_
  exact n_vret dX5_init_70 rfl (Nat.le_of_ble_eq_true rfl) (Nat.le_of_ble_eq_true rfl) ⟨rfl, rfl⟩
set_option maxHeartbeats 4000000 in
set_option maxRecDepth 20000 in
theorem ctr_X8_init {G : yb_G} : Ct G yX8_init cX8_init 1 none (yb_rmA 2 90 6473) [.ref (yb_ad G 1)] (yb_cm ci_0 cr_0 2) (fun v M' => v = none ∧ M' = (yb_cm ci_1 cr_58 92)) := by
  refine Ct.of (own := RX8) (ini := true) (vs := [some (.ref (yb_ad G 1))]) ⟨rfl, by decide +kernel⟩ (fun _ => rfl) (Nat.le_of_ble_eq_true rfl) rfl ?_
  refine n_aload_n (i := 0) dX8_init_0 rfl rfl ?_
  refine n_objInit oi_X8 dX8_init_1 ⟨Nat.le_of_ble_eq_true rfl, Nat.le_of_ble_eq_true rfl⟩ (Nat.le_of_ble_eq_true rfl) ?_
  refine n_aload_n (i := 0) dX8_init_4 rfl rfl ?_
  refine c_new (id := 2) nw_X8_9 rfl (by decide) (fun _ => rfl) (fun _ => rfl) nw_X8_9_f dX8_init_5 ⟨Nat.le_of_ble_eq_true rfl, Nat.le_of_ble_eq_true rfl⟩ ?_
  refine n_dup dX8_init_8 rfl ?_
  refine c_callN (As := []) ctr_X10_init cn_X8_11 rfl rfl (Nat.le_of_ble_eq_true rfl) dX8_init_9 ⟨Nat.le_of_ble_eq_true rfl, Nat.le_of_ble_eq_true rfl⟩ ⟨Nat.le_of_ble_eq_true rfl, Nat.le_of_ble_eq_true rfl⟩ ?_
  refine c_putr (id := 1) rfl ff_X8_12 rfl rfl dX8_init_12 ?_
  refine n_aload_n (i := 0) dX8_init_15 rfl rfl ?_
  refine c_new (id := 13) nw_X8_18 rfl (by decide) (fun _ => rfl) (fun _ => rfl) nw_X8_18_f dX8_init_16 ⟨Nat.le_of_ble_eq_true rfl, Nat.le_of_ble_eq_true rfl⟩ ?_
  refine n_dup dX8_init_19 rfl ?_
  refine c_callN (As := []) ctr_X4_init cn_X8_20 rfl rfl (Nat.le_of_ble_eq_true rfl) dX8_init_20 ⟨Nat.le_of_ble_eq_true rfl, Nat.le_of_ble_eq_true rfl⟩ ⟨Nat.le_of_ble_eq_true rfl, Nat.le_of_ble_eq_true rfl⟩ ?_
  refine c_putr (id := 1) rfl ff_X8_21 rfl rfl dX8_init_23 ?_
  refine n_aload_n (i := 0) dX8_init_26 rfl rfl ?_
  refine c_new (id := 21) nw_X8_25 rfl (by decide) (fun _ => rfl) (fun _ => rfl) nw_X8_25_f dX8_init_27 ⟨Nat.le_of_ble_eq_true rfl, Nat.le_of_ble_eq_true rfl⟩ ?_
  refine n_dup dX8_init_30 rfl ?_
  refine c_callN (As := []) ctr_X2_init cn_X8_27 rfl rfl (Nat.le_of_ble_eq_true rfl) dX8_init_31 ⟨Nat.le_of_ble_eq_true rfl, Nat.le_of_ble_eq_true rfl⟩ ⟨Nat.le_of_ble_eq_true rfl, Nat.le_of_ble_eq_true rfl⟩ ?_
  refine c_putr (id := 1) rfl ff_X8_28 rfl rfl dX8_init_34 ?_
  refine n_aload_n (i := 0) dX8_init_37 rfl rfl ?_
  refine c_new (id := 41) nw_X8_32 rfl (by decide) (fun _ => rfl) (fun _ => rfl) nw_X8_32_f dX8_init_38 ⟨Nat.le_of_ble_eq_true rfl, Nat.le_of_ble_eq_true rfl⟩ ?_
  refine n_dup dX8_init_41 rfl ?_
  refine c_callN (As := []) ctr_X7_init cn_X8_34 rfl rfl (Nat.le_of_ble_eq_true rfl) dX8_init_42 ⟨Nat.le_of_ble_eq_true rfl, Nat.le_of_ble_eq_true rfl⟩ ⟨Nat.le_of_ble_eq_true rfl, Nat.le_of_ble_eq_true rfl⟩ ?_
  refine c_putr (id := 1) rfl ff_X8_35 rfl rfl dX8_init_45 ?_
  refine n_aload_n (i := 0) dX8_init_48 rfl rfl ?_
  refine c_new (id := 54) nw_X8_39 rfl (by decide) (fun _ => rfl) (fun _ => rfl) nw_X8_39_f dX8_init_49 ⟨Nat.le_of_ble_eq_true rfl, Nat.le_of_ble_eq_true rfl⟩ ?_
  refine n_dup dX8_init_52 rfl ?_
  refine c_callN (As := []) ctr_X5_init cn_X8_41 rfl rfl (Nat.le_of_ble_eq_true rfl) dX8_init_53 ⟨Nat.le_of_ble_eq_true rfl, Nat.le_of_ble_eq_true rfl⟩ ⟨Nat.le_of_ble_eq_true rfl, Nat.le_of_ble_eq_true rfl⟩ ?_
  refine c_putr (id := 1) rfl ff_X8_42 rfl rfl dX8_init_56 ?_
  refine n_aload_n (i := 0) dX8_init_59 rfl rfl ?_
  refine n_bipush (18 : Int32) dX8_init_60 (by decide) ?_
  refine c_arr (id := 91) (n := 18) wA_int rfl (by decide) (by decide) (by decide) rfl (by decide) (fun _ => rfl) (fun _ => rfl) rfl dX8_init_62 ⟨Nat.le_of_ble_eq_true rfl, Nat.le_of_ble_eq_true rfl⟩ ?_
  refine c_putr (id := 1) rfl ff_X8_46 rfl rfl dX8_init_64 ?_
  exact n_vret dX8_init_67 rfl (Nat.le_of_ble_eq_true rfl) (Nat.le_of_ble_eq_true rfl) ⟨rfl, rfl⟩
theorem nw_X11_16 : yb_nw RX11 16 9 12 := ⟨RX9, TX9, rfl, (yb_gw_in (yb_t2 _ (List.mem_of_getElem? (i := 119) rfl)) rfl), (yb_gw_in (yb_t2 _ (List.mem_of_getElem? (i := 120) rfl)) rfl), (yb_gw_in (yb_t1 _ (List.mem_of_getElem? (i := 8) rfl)) rfl), lay_9, tyX9_ok⟩
theorem nw_X11_16_f : ∀ j, j < 12 → yb_nf (vwTy 9 j) = true := by decide +kernel
theorem oi_X9 : Cond.methodLink RX9 3 objectInit ∈ yb_gw ∧ Cond.instanceMethod objectInit ∈ yb_gw ∧ Cond.code objectInit ⟨#[0xb1]⟩ 1 none ∈ yb_gw := ⟨(yb_gw_in (yb_t2 _ (List.mem_of_getElem? (i := 124) rfl)) rfl), (yb_gw_in (yb_t1 _ (List.mem_of_getElem? (i := 26) rfl)) rfl), (yb_gw_in (yb_t1 _ (List.mem_of_getElem? (i := 27) rfl)) rfl)⟩
set_option maxHeartbeats 4000000 in
set_option maxRecDepth 20000 in
theorem ctr_X9_init {G : yb_G} : Ct G yX9_init cX9_init 1 none (yb_rmA 1 7 2515) [.ref (yb_ad G 92)] (yb_cm ci_1 cr_59 93) (fun v M' => v = none ∧ M' = (yb_cm ci_1 cr_66 100)) := by
  refine Ct.of (own := RX9) (ini := true) (vs := [some (.ref (yb_ad G 92))]) ⟨rfl, by decide +kernel⟩ (fun _ => rfl) (Nat.le_of_ble_eq_true rfl) rfl ?_
  refine n_aload_n (i := 0) dX9_init_0 rfl rfl ?_
  refine n_objInit oi_X9 dX9_init_1 ⟨Nat.le_of_ble_eq_true rfl, Nat.le_of_ble_eq_true rfl⟩ (Nat.le_of_ble_eq_true rfl) ?_
  refine n_aload_n (i := 0) dX9_init_4 rfl rfl ?_
  refine n_sipush (500 : Int32) dX9_init_5 (by decide) ?_
  refine c_arr (id := 93) (n := 500) wA_int rfl (by decide) (by decide) (by decide) rfl (by decide) (fun _ => rfl) (fun _ => rfl) rfl dX9_init_8 ⟨Nat.le_of_ble_eq_true rfl, Nat.le_of_ble_eq_true rfl⟩ ?_
  refine c_putr (id := 92) rfl ff_X9_9 rfl rfl dX9_init_10 ?_
  refine n_aload_n (i := 0) dX9_init_13 rfl rfl ?_
  refine n_bipush (6 : Int32) dX9_init_14 (by decide) ?_
  refine c_arr (id := 94) (n := 6) wA_int rfl (by decide) (by decide) (by decide) rfl (by decide) (fun _ => rfl) (fun _ => rfl) rfl dX9_init_16 ⟨Nat.le_of_ble_eq_true rfl, Nat.le_of_ble_eq_true rfl⟩ ?_
  refine c_putr (id := 92) rfl ff_X9_15 rfl rfl dX9_init_18 ?_
  refine n_aload_n (i := 0) dX9_init_21 rfl rfl ?_
  refine n_bipush (6 : Int32) dX9_init_22 (by decide) ?_
  refine c_arr (id := 95) (n := 6) wA_int rfl (by decide) (by decide) (by decide) rfl (by decide) (fun _ => rfl) (fun _ => rfl) rfl dX9_init_24 ⟨Nat.le_of_ble_eq_true rfl, Nat.le_of_ble_eq_true rfl⟩ ?_
  refine c_putr (id := 92) rfl ff_X9_18 rfl rfl dX9_init_26 ?_
  refine n_aload_n (i := 0) dX9_init_29 rfl rfl ?_
  refine n_sipush (500 : Int32) dX9_init_30 (by decide) ?_
  refine c_arr (id := 96) (n := 500) wA_int rfl (by decide) (by decide) (by decide) rfl (by decide) (fun _ => rfl) (fun _ => rfl) rfl dX9_init_33 ⟨Nat.le_of_ble_eq_true rfl, Nat.le_of_ble_eq_true rfl⟩ ?_
  refine c_putr (id := 92) rfl ff_X9_21 rfl rfl dX9_init_35 ?_
  refine n_aload_n (i := 0) dX9_init_38 rfl rfl ?_
  refine n_sipush (501 : Int32) dX9_init_39 (by decide) ?_
  refine c_arr (id := 97) (n := 501) wA_int rfl (by decide) (by decide) (by decide) rfl (by decide) (fun _ => rfl) (fun _ => rfl) rfl dX9_init_42 ⟨Nat.le_of_ble_eq_true rfl, Nat.le_of_ble_eq_true rfl⟩ ?_
  refine c_putr (id := 92) rfl ff_X9_24 rfl rfl dX9_init_44 ?_
  refine n_aload_n (i := 0) dX9_init_47 rfl rfl ?_
  refine n_sipush (501 : Int32) dX9_init_48 (by decide) ?_
  refine c_arr (id := 98) (n := 501) wA_int rfl (by decide) (by decide) (by decide) rfl (by decide) (fun _ => rfl) (fun _ => rfl) rfl dX9_init_51 ⟨Nat.le_of_ble_eq_true rfl, Nat.le_of_ble_eq_true rfl⟩ ?_
  refine c_putr (id := 92) rfl ff_X9_27 rfl rfl dX9_init_53 ?_
  refine n_aload_n (i := 0) dX9_init_56 rfl rfl ?_
  refine n_sipush (501 : Int32) dX9_init_57 (by decide) ?_
  refine c_arr (id := 99) (n := 501) wA_int rfl (by decide) (by decide) (by decide) rfl (by decide) (fun _ => rfl) (fun _ => rfl) rfl dX9_init_60 ⟨Nat.le_of_ble_eq_true rfl, Nat.le_of_ble_eq_true rfl⟩ ?_
  refine c_putr (id := 92) rfl ff_X9_30 rfl rfl dX9_init_62 ?_
  exact n_vret dX9_init_65 rfl (Nat.le_of_ble_eq_true rfl) (Nat.le_of_ble_eq_true rfl) ⟨rfl, rfl⟩
theorem nw_X11_23 : yb_nw RX11 23 6 6 := ⟨RX6, TX6, rfl, (yb_gw_in (yb_t2 _ (List.mem_of_getElem? (i := 168) rfl)) rfl), (yb_gw_in (yb_t2 _ (List.mem_of_getElem? (i := 169) rfl)) rfl), (yb_gw_in (yb_t1 _ (List.mem_of_getElem? (i := 9) rfl)) rfl), lay_6, tyX6_ok⟩
theorem nw_X11_23_f : ∀ j, j < 6 → yb_nf (vwTy 6 j) = true := by decide +kernel
theorem oi_X6 : Cond.methodLink RX6 3 objectInit ∈ yb_gw ∧ Cond.instanceMethod objectInit ∈ yb_gw ∧ Cond.code objectInit ⟨#[0xb1]⟩ 1 none ∈ yb_gw := ⟨(yb_gw_in (yb_t2 _ (List.mem_of_getElem? (i := 173) rfl)) rfl), (yb_gw_in (yb_t1 _ (List.mem_of_getElem? (i := 26) rfl)) rfl), (yb_gw_in (yb_t1 _ (List.mem_of_getElem? (i := 27) rfl)) rfl)⟩
theorem wM_X6_18 : Cond.classLink RX6 18 ("[" ++ (FieldType.array .int).toString) ∈ yb_gw := (yb_gw_in (yb_t2 _ (List.mem_of_getElem? (i := 174) rfl)) rfl)
set_option maxHeartbeats 4000000 in
set_option maxRecDepth 20000 in
theorem ctr_X6_init {G : yb_G} : Ct G yX6_init cX6_init 2 none (yb_rmA 1 27 648) [.ref (yb_ad G 100), .ref (yb_ad G 1)] (yb_cm ci_1 cr_67 101) (fun v M' => v = none ∧ M' = (yb_cm ci_1 cr_72 128)) := by
  refine Ct.of (own := RX6) (ini := true) (vs := [some (.ref (yb_ad G 100)), some (.ref (yb_ad G 1))]) ⟨rfl, by decide +kernel⟩ (fun _ => rfl) (Nat.le_of_ble_eq_true rfl) rfl ?_
  refine n_aload_n (i := 0) dX6_init_0 rfl rfl ?_
  refine n_objInit oi_X6 dX6_init_1 ⟨Nat.le_of_ble_eq_true rfl, Nat.le_of_ble_eq_true rfl⟩ (Nat.le_of_ble_eq_true rfl) ?_
  refine n_aload_n (i := 0) dX6_init_4 rfl rfl ?_
  refine n_bipush (24 : Int32) dX6_init_5 (by decide) ?_
  refine c_arr (id := 101) (n := 24) wA_int rfl (by decide) (by decide) (by decide) rfl (by decide) (fun _ => rfl) (fun _ => rfl) rfl dX6_init_7 ⟨Nat.le_of_ble_eq_true rfl, Nat.le_of_ble_eq_true rfl⟩ ?_
  refine c_putr (id := 100) rfl ff_X6_9 rfl rfl dX6_init_9 ?_
  refine n_aload_n (i := 0) dX6_init_12 rfl rfl ?_
  refine n_bipush (24 : Int32) dX6_init_13 (by decide) ?_
  refine c_arr (id := 102) (n := 24) wA_int rfl (by decide) (by decide) (by decide) rfl (by decide) (fun _ => rfl) (fun _ => rfl) rfl dX6_init_15 ⟨Nat.le_of_ble_eq_true rfl, Nat.le_of_ble_eq_true rfl⟩ ?_
  refine c_putr (id := 100) rfl ff_X6_15 rfl rfl dX6_init_17 ?_
  refine n_aload_n (i := 0) dX6_init_20 rfl rfl ?_
  refine n_bipush (24 : Int32) dX6_init_21 (by decide) ?_
  refine n_bipush (24 : Int32) dX6_init_23 (by decide) ?_
  refine c_mna2 (id := 103) (n := 24) (k := 24) (ty := .int) wM_X6_18 (by decide) wA_int (by decide) (Or.inl rfl) (by decide) (by decide) (by decide) (by decide) (by decide +kernel) (by decide) (fun a j ha => ci_z1 (by omega) (by omega)) (by decide) dX6_init_25 ⟨Nat.le_of_ble_eq_true rfl, Nat.le_of_ble_eq_true rfl⟩ ?_
  refine c_putr (id := 100) rfl ff_X6_20 rfl rfl dX6_init_29 ?_
  refine n_aload_n (i := 0) dX6_init_32 rfl rfl ?_
  refine n_aload_n (i := 1) dX6_init_33 rfl rfl ?_
  refine c_putr (id := 100) rfl ff_X6_23 rfl rfl dX6_init_34 ?_
  exact n_vret dX6_init_37 rfl (Nat.le_of_ble_eq_true rfl) (Nat.le_of_ble_eq_true rfl) ⟨rfl, rfl⟩
theorem nw_X11_32 : yb_nw RX11 32 1 15 := ⟨RX1, TX1, rfl, (yb_gw_in (yb_t2 _ (List.mem_of_getElem? (i := 194) rfl)) rfl), (yb_gw_in (yb_t2 _ (List.mem_of_getElem? (i := 195) rfl)) rfl), (yb_gw_in (yb_t1 _ (List.mem_of_getElem? (i := 10) rfl)) rfl), lay_1, tyX1_ok⟩
theorem nw_X11_32_f : ∀ j, j < 15 → yb_nf (vwTy 1 j) = true := by decide +kernel
theorem oi_X1 : Cond.methodLink RX1 3 objectInit ∈ yb_gw ∧ Cond.instanceMethod objectInit ∈ yb_gw ∧ Cond.code objectInit ⟨#[0xb1]⟩ 1 none ∈ yb_gw := ⟨(yb_gw_in (yb_t2 _ (List.mem_of_getElem? (i := 199) rfl)) rfl), (yb_gw_in (yb_t1 _ (List.mem_of_getElem? (i := 26) rfl)) rfl), (yb_gw_in (yb_t1 _ (List.mem_of_getElem? (i := 27) rfl)) rfl)⟩
set_option maxHeartbeats 4000000 in
set_option maxRecDepth 20000 in
theorem ctr_X1_init {G : yb_G} : Ct G yX1_init cX1_init 2 none (yb_rmA 1 8 51) [.ref (yb_ad G 128), .ref (yb_ad G 1)] (yb_cm ci_1 cr_73 129) (fun v M' => v = none ∧ M' = (yb_cm ci_1 cr_82 137)) := by
  refine Ct.of (own := RX1) (ini := true) (vs := [some (.ref (yb_ad G 128)), some (.ref (yb_ad G 1))]) ⟨rfl, by decide +kernel⟩ (fun _ => rfl) (Nat.le_of_ble_eq_true rfl) rfl ?_
  refine n_aload_n (i := 0) dX1_init_0 rfl rfl ?_
  refine n_objInit oi_X1 dX1_init_1 ⟨Nat.le_of_ble_eq_true rfl, Nat.le_of_ble_eq_true rfl⟩ (Nat.le_of_ble_eq_true rfl) ?_
  refine n_aload_n (i := 0) dX1_init_4 rfl rfl ?_
  refine n_bipush (6 : Int32) dX1_init_5 (by decide) ?_
  refine c_arr (id := 129) (n := 6) wA_int rfl (by decide) (by decide) (by decide) rfl (by decide) (fun _ => rfl) (fun _ => rfl) rfl dX1_init_7 ⟨Nat.le_of_ble_eq_true rfl, Nat.le_of_ble_eq_true rfl⟩ ?_
  refine c_putr (id := 128) rfl ff_X1_9 rfl rfl dX1_init_9 ?_
  refine n_aload_n (i := 0) dX1_init_12 rfl rfl ?_
  refine n_bipush (6 : Int32) dX1_init_13 (by decide) ?_
  refine c_arr (id := 130) (n := 6) wA_int rfl (by decide) (by decide) (by decide) rfl (by decide) (fun _ => rfl) (fun _ => rfl) rfl dX1_init_15 ⟨Nat.le_of_ble_eq_true rfl, Nat.le_of_ble_eq_true rfl⟩ ?_
  refine c_putr (id := 128) rfl ff_X1_15 rfl rfl dX1_init_17 ?_
  refine n_aload_n (i := 0) dX1_init_20 rfl rfl ?_
  refine n_bipush (6 : Int32) dX1_init_21 (by decide) ?_
  refine c_arr (id := 131) (n := 6) wA_int rfl (by decide) (by decide) (by decide) rfl (by decide) (fun _ => rfl) (fun _ => rfl) rfl dX1_init_23 ⟨Nat.le_of_ble_eq_true rfl, Nat.le_of_ble_eq_true rfl⟩ ?_
  refine c_putr (id := 128) rfl ff_X1_18 rfl rfl dX1_init_25 ?_
  refine n_aload_n (i := 0) dX1_init_28 rfl rfl ?_
  refine n_bipush (6 : Int32) dX1_init_29 (by decide) ?_
  refine c_arr (id := 132) (n := 6) wA_int rfl (by decide) (by decide) (by decide) rfl (by decide) (fun _ => rfl) (fun _ => rfl) rfl dX1_init_31 ⟨Nat.le_of_ble_eq_true rfl, Nat.le_of_ble_eq_true rfl⟩ ?_
  refine c_putr (id := 128) rfl ff_X1_21 rfl rfl dX1_init_33 ?_
  refine n_aload_n (i := 0) dX1_init_36 rfl rfl ?_
  refine n_bipush (6 : Int32) dX1_init_37 (by decide) ?_
  refine c_arr (id := 133) (n := 6) wA_int rfl (by decide) (by decide) (by decide) rfl (by decide) (fun _ => rfl) (fun _ => rfl) rfl dX1_init_39 ⟨Nat.le_of_ble_eq_true rfl, Nat.le_of_ble_eq_true rfl⟩ ?_
  refine c_putr (id := 128) rfl ff_X1_24 rfl rfl dX1_init_41 ?_
  refine n_aload_n (i := 0) dX1_init_44 rfl rfl ?_
  refine n_bipush (7 : Int32) dX1_init_45 (by decide) ?_
  refine c_arr (id := 134) (n := 7) wA_int rfl (by decide) (by decide) (by decide) rfl (by decide) (fun _ => rfl) (fun _ => rfl) rfl dX1_init_47 ⟨Nat.le_of_ble_eq_true rfl, Nat.le_of_ble_eq_true rfl⟩ ?_
  refine c_putr (id := 128) rfl ff_X1_27 rfl rfl dX1_init_49 ?_
  refine n_aload_n (i := 0) dX1_init_52 rfl rfl ?_
  refine n_bipush (7 : Int32) dX1_init_53 (by decide) ?_
  refine c_arr (id := 135) (n := 7) wA_int rfl (by decide) (by decide) (by decide) rfl (by decide) (fun _ => rfl) (fun _ => rfl) rfl dX1_init_55 ⟨Nat.le_of_ble_eq_true rfl, Nat.le_of_ble_eq_true rfl⟩ ?_
  refine c_putr (id := 128) rfl ff_X1_30 rfl rfl dX1_init_57 ?_
  refine n_aload_n (i := 0) dX1_init_60 rfl rfl ?_
  refine n_bipush (7 : Int32) dX1_init_61 (by decide) ?_
  refine c_arr (id := 136) (n := 7) wA_int rfl (by decide) (by decide) (by decide) rfl (by decide) (fun _ => rfl) (fun _ => rfl) rfl dX1_init_63 ⟨Nat.le_of_ble_eq_true rfl, Nat.le_of_ble_eq_true rfl⟩ ?_
  refine c_putr (id := 128) rfl ff_X1_33 rfl rfl dX1_init_65 ?_
  refine n_aload_n (i := 0) dX1_init_68 rfl rfl ?_
  refine n_aload_n (i := 1) dX1_init_69 rfl rfl ?_
  refine c_putr (id := 128) rfl ff_X1_36 rfl rfl dX1_init_70 ?_
  exact n_vret dX1_init_73 rfl (Nat.le_of_ble_eq_true rfl) (Nat.le_of_ble_eq_true rfl) ⟨rfl, rfl⟩
theorem nw_X11_39 : yb_nw RX11 39 0 2 := ⟨RX0, TX0, rfl, (yb_gw_in (yb_t3 _ (List.mem_of_getElem? (i := 9) rfl)) rfl), (yb_gw_in (yb_t3 _ (List.mem_of_getElem? (i := 10) rfl)) rfl), (yb_gw_in (yb_t1 _ (List.mem_of_getElem? (i := 11) rfl)) rfl), lay_0, tyX0_ok⟩
theorem nw_X11_39_f : ∀ j, j < 2 → yb_nf (vwTy 0 j) = true := by decide +kernel
theorem oi_X0 : Cond.methodLink RX0 3 objectInit ∈ yb_gw ∧ Cond.instanceMethod objectInit ∈ yb_gw ∧ Cond.code objectInit ⟨#[0xb1]⟩ 1 none ∈ yb_gw := ⟨(yb_gw_in (yb_t3 _ (List.mem_of_getElem? (i := 14) rfl)) rfl), (yb_gw_in (yb_t1 _ (List.mem_of_getElem? (i := 26) rfl)) rfl), (yb_gw_in (yb_t1 _ (List.mem_of_getElem? (i := 27) rfl)) rfl)⟩
theorem wM_X0_9 : Cond.classLink RX0 9 ("[" ++ (FieldType.array .int).toString) ∈ yb_gw := (yb_gw_in (yb_t3 _ (List.mem_of_getElem? (i := 15) rfl)) rfl)
set_option maxHeartbeats 4000000 in
set_option maxRecDepth 20000 in
theorem ctr_X0_init {G : yb_G} : Ct G yX0_init cX0_init 1 none (yb_rmA 1 34 6432) [.ref (yb_ad G 137)] (yb_cm ci_1 cr_83 138) (fun v M' => v = none ∧ M' = (yb_cm ci_1 cr_87 172)) := by
  refine Ct.of (own := RX0) (ini := true) (vs := [some (.ref (yb_ad G 137))]) ⟨rfl, by decide +kernel⟩ (fun _ => rfl) (Nat.le_of_ble_eq_true rfl) rfl ?_
  refine n_aload_n (i := 0) dX0_init_0 rfl rfl ?_
  refine n_objInit oi_X0 dX0_init_1 ⟨Nat.le_of_ble_eq_true rfl, Nat.le_of_ble_eq_true rfl⟩ (Nat.le_of_ble_eq_true rfl) ?_
  refine n_aload_n (i := 0) dX0_init_4 rfl rfl ?_
  refine n_bipush (24 : Int32) dX0_init_5 (by decide) ?_
  refine n_sipush (200 : Int32) dX0_init_7 (by decide) ?_
  refine c_mna2 (id := 138) (n := 24) (k := 200) (ty := .int) wM_X0_9 (by decide) wA_int (by decide) (Or.inl rfl) (by decide) (by decide) (by decide) (by decide) (by decide +kernel) (by decide) (fun a j ha => ci_z1 (by omega) (by omega)) (by decide) dX0_init_10 ⟨Nat.le_of_ble_eq_true rfl, Nat.le_of_ble_eq_true rfl⟩ ?_
  refine c_putr (id := 137) rfl ff_X0_11 rfl rfl dX0_init_14 ?_
  refine n_aload_n (i := 0) dX0_init_17 rfl rfl ?_
  refine n_bipush (8 : Int32) dX0_init_18 (by decide) ?_
  refine n_sipush (200 : Int32) dX0_init_20 (by decide) ?_
  refine c_mna2 (id := 163) (n := 8) (k := 200) (ty := .int) wM_X0_9 (by decide) wA_int (by decide) (Or.inl rfl) (by decide) (by decide) (by decide) (by decide) (by decide +kernel) (by decide) (fun a j ha => ci_z1 (by omega) (by omega)) (by decide) dX0_init_23 ⟨Nat.le_of_ble_eq_true rfl, Nat.le_of_ble_eq_true rfl⟩ ?_
  refine c_putr (id := 137) rfl ff_X0_16 rfl rfl dX0_init_27 ?_
  exact n_vret dX0_init_30 rfl (Nat.le_of_ble_eq_true rfl) (Nat.le_of_ble_eq_true rfl) ⟨rfl, rfl⟩
theorem nw_X11_46 : yb_nw RX11 46 3 5 := ⟨RX3, TX3, rfl, (yb_gw_in (yb_t3 _ (List.mem_of_getElem? (i := 24) rfl)) rfl), (yb_gw_in (yb_t3 _ (List.mem_of_getElem? (i := 25) rfl)) rfl), (yb_gw_in (yb_t1 _ (List.mem_of_getElem? (i := 12) rfl)) rfl), lay_3, tyX3_ok⟩
theorem nw_X11_46_f : ∀ j, j < 5 → yb_nf (vwTy 3 j) = true := by decide +kernel
theorem oi_X3 : Cond.methodLink RX3 3 objectInit ∈ yb_gw ∧ Cond.instanceMethod objectInit ∈ yb_gw ∧ Cond.code objectInit ⟨#[0xb1]⟩ 1 none ∈ yb_gw := ⟨(yb_gw_in (yb_t3 _ (List.mem_of_getElem? (i := 29) rfl)) rfl), (yb_gw_in (yb_t1 _ (List.mem_of_getElem? (i := 26) rfl)) rfl), (yb_gw_in (yb_t1 _ (List.mem_of_getElem? (i := 27) rfl)) rfl)⟩
set_option maxHeartbeats 4000000 in
set_option maxRecDepth 20000 in
theorem ctr_X3_init {G : yb_G} : Ct G yX3_init cX3_init 1 none (yb_rmA 1 3 603) [.ref (yb_ad G 172)] (yb_cm ci_1 cr_88 173) (fun v M' => v = none ∧ M' = (yb_cm ci_1 cr_91 176)) := by
  refine Ct.of (own := RX3) (ini := true) (vs := [some (.ref (yb_ad G 172))]) ⟨rfl, by decide +kernel⟩ (fun _ => rfl) (Nat.le_of_ble_eq_true rfl) rfl ?_
  refine n_aload_n (i := 0) dX3_init_0 rfl rfl ?_
  refine n_objInit oi_X3 dX3_init_1 ⟨Nat.le_of_ble_eq_true rfl, Nat.le_of_ble_eq_true rfl⟩ (Nat.le_of_ble_eq_true rfl) ?_
  refine n_aload_n (i := 0) dX3_init_4 rfl rfl ?_
  refine n_sipush (201 : Int32) dX3_init_5 (by decide) ?_
  refine c_arr (id := 173) (n := 201) wA_int rfl (by decide) (by decide) (by decide) rfl (by decide) (fun _ => rfl) (fun _ => rfl) rfl dX3_init_8 ⟨Nat.le_of_ble_eq_true rfl, Nat.le_of_ble_eq_true rfl⟩ ?_
  refine c_putr (id := 172) rfl ff_X3_9 rfl rfl dX3_init_10 ?_
  refine n_aload_n (i := 0) dX3_init_13 rfl rfl ?_
  refine n_sipush (201 : Int32) dX3_init_14 (by decide) ?_
  refine c_arr (id := 174) (n := 201) wA_int rfl (by decide) (by decide) (by decide) rfl (by decide) (fun _ => rfl) (fun _ => rfl) rfl dX3_init_17 ⟨Nat.le_of_ble_eq_true rfl, Nat.le_of_ble_eq_true rfl⟩ ?_
  refine c_putr (id := 172) rfl ff_X3_15 rfl rfl dX3_init_19 ?_
  refine n_aload_n (i := 0) dX3_init_22 rfl rfl ?_
  refine n_sipush (201 : Int32) dX3_init_23 (by decide) ?_
  refine c_arr (id := 175) (n := 201) wA_int rfl (by decide) (by decide) (by decide) rfl (by decide) (fun _ => rfl) (fun _ => rfl) rfl dX3_init_26 ⟨Nat.le_of_ble_eq_true rfl, Nat.le_of_ble_eq_true rfl⟩ ?_
  refine c_putr (id := 172) rfl ff_X3_18 rfl rfl dX3_init_28 ?_
  exact n_vret dX3_init_31 rfl (Nat.le_of_ble_eq_true rfl) (Nat.le_of_ble_eq_true rfl) ⟨rfl, rfl⟩
set_option maxHeartbeats 4000000 in
set_option maxRecDepth 20000 in
theorem ctr_X11_init {G : yb_G} : Ct G yX11_init cX11_init 1 none (yb_rmA 3 175 16771) [.ref (yb_ad G 0)] (yb_cm ci_0 cr_0 1) (fun v M' => v = none ∧ M' = (yb_cm ci_1 cr_92 176)) := by
  refine Ct.of (own := RX11) (ini := true) (vs := [some (.ref (yb_ad G 0))]) ⟨rfl, by decide +kernel⟩ (fun _ => rfl) (Nat.le_of_ble_eq_true rfl) rfl ?_
  refine n_aload_n (i := 0) dX11_init_0 rfl rfl ?_
  refine n_objInit oi_X11 dX11_init_1 ⟨Nat.le_of_ble_eq_true rfl, Nat.le_of_ble_eq_true rfl⟩ (Nat.le_of_ble_eq_true rfl) ?_
  refine n_aload_n (i := 0) dX11_init_4 rfl rfl ?_
  refine c_new (id := 1) nw_X11_7 rfl (by decide) (fun _ => rfl) (fun _ => rfl) nw_X11_7_f dX11_init_5 ⟨Nat.le_of_ble_eq_true rfl, Nat.le_of_ble_eq_true rfl⟩ ?_
  refine n_dup dX11_init_8 rfl ?_
  refine c_callN (As := []) ctr_X8_init cn_X11_9 rfl rfl (Nat.le_of_ble_eq_true rfl) dX11_init_9 ⟨Nat.le_of_ble_eq_true rfl, Nat.le_of_ble_eq_true rfl⟩ ⟨Nat.le_of_ble_eq_true rfl, Nat.le_of_ble_eq_true rfl⟩ ?_
  refine c_putr (id := 0) rfl ff_X11_10 rfl rfl dX11_init_12 ?_
  refine n_aload_n (i := 0) dX11_init_15 rfl rfl ?_
  refine c_new (id := 92) nw_X11_16 rfl (by decide) (fun _ => rfl) (fun _ => rfl) nw_X11_16_f dX11_init_16 ⟨Nat.le_of_ble_eq_true rfl, Nat.le_of_ble_eq_true rfl⟩ ?_
  refine n_dup dX11_init_19 rfl ?_
  refine c_callN (As := []) ctr_X9_init cn_X11_18 rfl rfl (Nat.le_of_ble_eq_true rfl) dX11_init_20 ⟨Nat.le_of_ble_eq_true rfl, Nat.le_of_ble_eq_true rfl⟩ ⟨Nat.le_of_ble_eq_true rfl, Nat.le_of_ble_eq_true rfl⟩ ?_
  refine c_putr (id := 0) rfl ff_X11_19 rfl rfl dX11_init_23 ?_
  refine n_aload_n (i := 0) dX11_init_26 rfl rfl ?_
  refine c_new (id := 100) nw_X11_23 rfl (by decide) (fun _ => rfl) (fun _ => rfl) nw_X11_23_f dX11_init_27 ⟨Nat.le_of_ble_eq_true rfl, Nat.le_of_ble_eq_true rfl⟩ ?_
  refine n_dup dX11_init_30 rfl ?_
  refine n_aload_n (i := 0) dX11_init_31 rfl rfl ?_
  refine c_getr (id := 0) fl_X11_10 rfl rfl (j := 1) rfl dX11_init_32 ?_
  refine c_callI (As := [.ref (yb_ad G 1)]) ctr_X6_init ci_X11_25 rfl rfl (Nat.le_of_ble_eq_true rfl) dX11_init_35 ⟨Nat.le_of_ble_eq_true rfl, Nat.le_of_ble_eq_true rfl⟩ ⟨Nat.le_of_ble_eq_true rfl, Nat.le_of_ble_eq_true rfl⟩ ?_
  refine c_putr (id := 0) rfl ff_X11_28 rfl rfl dX11_init_38 ?_
  refine n_aload_n (i := 0) dX11_init_41 rfl rfl ?_
  refine c_new (id := 128) nw_X11_32 rfl (by decide) (fun _ => rfl) (fun _ => rfl) nw_X11_32_f dX11_init_42 ⟨Nat.le_of_ble_eq_true rfl, Nat.le_of_ble_eq_true rfl⟩ ?_
  refine n_dup dX11_init_45 rfl ?_
  refine n_aload_n (i := 0) dX11_init_46 rfl rfl ?_
  refine c_getr (id := 0) fl_X11_10 rfl rfl (j := 1) rfl dX11_init_47 ?_
  refine c_callI (As := [.ref (yb_ad G 1)]) ctr_X1_init ci_X11_34 rfl rfl (Nat.le_of_ble_eq_true rfl) dX11_init_50 ⟨Nat.le_of_ble_eq_true rfl, Nat.le_of_ble_eq_true rfl⟩ ⟨Nat.le_of_ble_eq_true rfl, Nat.le_of_ble_eq_true rfl⟩ ?_
  refine c_putr (id := 0) rfl ff_X11_35 rfl rfl dX11_init_53 ?_
  refine n_aload_n (i := 0) dX11_init_56 rfl rfl ?_
  refine c_new (id := 137) nw_X11_39 rfl (by decide) (fun _ => rfl) (fun _ => rfl) nw_X11_39_f dX11_init_57 ⟨Nat.le_of_ble_eq_true rfl, Nat.le_of_ble_eq_true rfl⟩ ?_
  refine n_dup dX11_init_60 rfl ?_
  refine c_callN (As := []) ctr_X0_init cn_X11_41 rfl rfl (Nat.le_of_ble_eq_true rfl) dX11_init_61 ⟨Nat.le_of_ble_eq_true rfl, Nat.le_of_ble_eq_true rfl⟩ ⟨Nat.le_of_ble_eq_true rfl, Nat.le_of_ble_eq_true rfl⟩ ?_
  refine c_putr (id := 0) rfl ff_X11_42 rfl rfl dX11_init_64 ?_
  refine n_aload_n (i := 0) dX11_init_67 rfl rfl ?_
  refine c_new (id := 172) nw_X11_46 rfl (by decide) (fun _ => rfl) (fun _ => rfl) nw_X11_46_f dX11_init_68 ⟨Nat.le_of_ble_eq_true rfl, Nat.le_of_ble_eq_true rfl⟩ ?_
  refine n_dup dX11_init_71 rfl ?_
  refine c_callN (As := []) ctr_X3_init cn_X11_48 rfl rfl (Nat.le_of_ble_eq_true rfl) dX11_init_72 ⟨Nat.le_of_ble_eq_true rfl, Nat.le_of_ble_eq_true rfl⟩ ⟨Nat.le_of_ble_eq_true rfl, Nat.le_of_ble_eq_true rfl⟩ ?_
  refine c_putr (id := 0) rfl ff_X11_49 rfl rfl dX11_init_75 ?_
  exact n_vret dX11_init_78 rfl (Nat.le_of_ble_eq_true rfl) (Nat.le_of_ble_eq_true rfl) ⟨rfl, rfl⟩
theorem oi_X12 : Cond.methodLink RX12 1 objectInit ∈ yb_gw ∧ Cond.instanceMethod objectInit ∈ yb_gw ∧ Cond.code objectInit ⟨#[0xb1]⟩ 1 none ∈ yb_gw := ⟨(yb_gw_in (yb_t6 _ (List.mem_of_getElem? (i := 105) rfl)) rfl), (yb_gw_in (yb_t1 _ (List.mem_of_getElem? (i := 26) rfl)) rfl), (yb_gw_in (yb_t1 _ (List.mem_of_getElem? (i := 27) rfl)) rfl)⟩
theorem wM_X12_81 : Cond.classLink RX12 81 ("[" ++ (FieldType.array .int).toString) ∈ yb_gw := (yb_gw_in (yb_t6 _ (List.mem_of_getElem? (i := 106) rfl)) rfl)
theorem wM3 : Cond.classLink RX12 123 ("[" ++ (FieldType.array (.array .int)).toString) ∈ yb_gw := (yb_gw_in (yb_t6 _ (List.mem_of_getElem? (i := 107) rfl)) rfl)
theorem wS_137 : Cond.classLink RX12 137 "java/lang/String" ∈ yb_gw := (yb_gw_in (yb_t6 _ (List.mem_of_getElem? (i := 109) rfl)) rfl)
theorem wM_X12_206 : Cond.classLink RX12 206 ("[" ++ (FieldType.array .long).toString) ∈ yb_gw := (yb_gw_in (yb_t6 _ (List.mem_of_getElem? (i := 135) rfl)) rfl)
set_option maxHeartbeats 4000000 in
set_option maxRecDepth 20000 in
theorem ctr_X12_init {G : yb_G} : Ct G yX12_init cX12_init 1 none (yb_rmA 1 426 78422) [.ref (yb_ad G 176)] (yb_cm ci_1 cr_92 177) (fun v M' => v = none ∧ M' = (yb_cm ci_2 cr_183 603)) := by
  refine Ct.of (own := RX12) (ini := true) (vs := [some (.ref (yb_ad G 176))]) ⟨rfl, by decide +kernel⟩ (fun _ => rfl) (Nat.le_of_ble_eq_true rfl) rfl ?_
  refine n_aload_n (i := 0) dX12_init_0 rfl rfl ?_
  refine n_objInit oi_X12 dX12_init_1 ⟨Nat.le_of_ble_eq_true rfl, Nat.le_of_ble_eq_true rfl⟩ (Nat.le_of_ble_eq_true rfl) ?_
  refine n_aload_n (i := 0) dX12_init_4 rfl rfl ?_
  refine n_bipush (8 : Int32) dX12_init_5 (by decide) ?_
  refine c_arr (id := 177) (n := 8) wA_int rfl (by decide) (by decide) (by decide) rfl (by decide) (fun _ => rfl) (fun _ => rfl) rfl dX12_init_7 ⟨Nat.le_of_ble_eq_true rfl, Nat.le_of_ble_eq_true rfl⟩ ?_
  refine c_putr (id := 176) rfl ff_X12_9 rfl rfl dX12_init_9 ?_
  refine n_aload_n (i := 0) dX12_init_12 rfl rfl ?_
  refine n_bipush (8 : Int32) dX12_init_13 (by decide) ?_
  refine c_arr (id := 178) (n := 8) wA_int rfl (by decide) (by decide) (by decide) rfl (by decide) (fun _ => rfl) (fun _ => rfl) rfl dX12_init_15 ⟨Nat.le_of_ble_eq_true rfl, Nat.le_of_ble_eq_true rfl⟩ ?_
  refine c_putr (id := 176) rfl ff_X12_13 rfl rfl dX12_init_17 ?_
  refine n_aload_n (i := 0) dX12_init_20 rfl rfl ?_
  refine n_bipush (8 : Int32) dX12_init_21 (by decide) ?_
  refine c_arr (id := 179) (n := 8) wA_int rfl (by decide) (by decide) (by decide) rfl (by decide) (fun _ => rfl) (fun _ => rfl) rfl dX12_init_23 ⟨Nat.le_of_ble_eq_true rfl, Nat.le_of_ble_eq_true rfl⟩ ?_
  refine c_putr (id := 176) rfl ff_X12_16 rfl rfl dX12_init_25 ?_
  refine n_aload_n (i := 0) dX12_init_28 rfl rfl ?_
  refine n_bipush (8 : Int32) dX12_init_29 (by decide) ?_
  refine c_arr (id := 180) (n := 8) wA_int rfl (by decide) (by decide) (by decide) rfl (by decide) (fun _ => rfl) (fun _ => rfl) rfl dX12_init_31 ⟨Nat.le_of_ble_eq_true rfl, Nat.le_of_ble_eq_true rfl⟩ ?_
  refine c_putr (id := 176) rfl ff_X12_19 rfl rfl dX12_init_33 ?_
  refine n_aload_n (i := 0) dX12_init_36 rfl rfl ?_
  refine n_bipush (8 : Int32) dX12_init_37 (by decide) ?_
  refine c_arr (id := 181) (n := 8) wA_long rfl (by decide) (by decide) (by decide) rfl (by decide) (fun _ => rfl) (fun _ => rfl) rfl dX12_init_39 ⟨Nat.le_of_ble_eq_true rfl, Nat.le_of_ble_eq_true rfl⟩ ?_
  refine c_putr (id := 176) rfl ff_X12_22 rfl rfl dX12_init_41 ?_
  refine n_aload_n (i := 0) dX12_init_44 rfl rfl ?_
  refine n_bipush (8 : Int32) dX12_init_45 (by decide) ?_
  refine c_arr (id := 182) (n := 8) wA_boolean rfl (by decide) (by decide) (by decide) rfl (by decide) (fun _ => rfl) (fun _ => rfl) rfl dX12_init_47 ⟨Nat.le_of_ble_eq_true rfl, Nat.le_of_ble_eq_true rfl⟩ ?_
  refine c_putr (id := 176) rfl ff_X12_26 rfl rfl dX12_init_49 ?_
  refine n_aload_n (i := 0) dX12_init_52 rfl rfl ?_
  refine n_bipush (24 : Int32) dX12_init_53 (by decide) ?_
  refine c_arr (id := 183) (n := 24) wA_int rfl (by decide) (by decide) (by decide) rfl (by decide) (fun _ => rfl) (fun _ => rfl) rfl dX12_init_55 ⟨Nat.le_of_ble_eq_true rfl, Nat.le_of_ble_eq_true rfl⟩ ?_
  refine c_putr (id := 176) rfl ff_X12_30 rfl rfl dX12_init_57 ?_
  refine n_aload_n (i := 0) dX12_init_60 rfl rfl ?_
  refine n_bipush (24 : Int32) dX12_init_61 (by decide) ?_
  refine c_arr (id := 184) (n := 24) wA_int rfl (by decide) (by decide) (by decide) rfl (by decide) (fun _ => rfl) (fun _ => rfl) rfl dX12_init_63 ⟨Nat.le_of_ble_eq_true rfl, Nat.le_of_ble_eq_true rfl⟩ ?_
  refine c_putr (id := 176) rfl ff_X12_33 rfl rfl dX12_init_65 ?_
  refine n_aload_n (i := 0) dX12_init_68 rfl rfl ?_
  refine n_bipush (24 : Int32) dX12_init_69 (by decide) ?_
  refine c_arr (id := 185) (n := 24) wA_int rfl (by decide) (by decide) (by decide) rfl (by decide) (fun _ => rfl) (fun _ => rfl) rfl dX12_init_71 ⟨Nat.le_of_ble_eq_true rfl, Nat.le_of_ble_eq_true rfl⟩ ?_
  refine c_putr (id := 176) rfl ff_X12_36 rfl rfl dX12_init_73 ?_
  refine n_aload_n (i := 0) dX12_init_76 rfl rfl ?_
  refine n_bipush (24 : Int32) dX12_init_77 (by decide) ?_
  refine c_arr (id := 186) (n := 24) wA_int rfl (by decide) (by decide) (by decide) rfl (by decide) (fun _ => rfl) (fun _ => rfl) rfl dX12_init_79 ⟨Nat.le_of_ble_eq_true rfl, Nat.le_of_ble_eq_true rfl⟩ ?_
  refine c_putr (id := 176) rfl ff_X12_39 rfl rfl dX12_init_81 ?_
  refine n_aload_n (i := 0) dX12_init_84 rfl rfl ?_
  refine n_bipush (24 : Int32) dX12_init_85 (by decide) ?_
  refine c_arr (id := 187) (n := 24) wA_int rfl (by decide) (by decide) (by decide) rfl (by decide) (fun _ => rfl) (fun _ => rfl) rfl dX12_init_87 ⟨Nat.le_of_ble_eq_true rfl, Nat.le_of_ble_eq_true rfl⟩ ?_
  refine c_putr (id := 176) rfl ff_X12_42 rfl rfl dX12_init_89 ?_
  refine n_aload_n (i := 0) dX12_init_92 rfl rfl ?_
  refine n_bipush (24 : Int32) dX12_init_93 (by decide) ?_
  refine c_arr (id := 188) (n := 24) wA_int rfl (by decide) (by decide) (by decide) rfl (by decide) (fun _ => rfl) (fun _ => rfl) rfl dX12_init_95 ⟨Nat.le_of_ble_eq_true rfl, Nat.le_of_ble_eq_true rfl⟩ ?_
  refine c_putr (id := 176) rfl ff_X12_45 rfl rfl dX12_init_97 ?_
  refine n_aload_n (i := 0) dX12_init_100 rfl rfl ?_
  refine n_bipush (24 : Int32) dX12_init_101 (by decide) ?_
  refine c_arr (id := 189) (n := 24) wA_int rfl (by decide) (by decide) (by decide) rfl (by decide) (fun _ => rfl) (fun _ => rfl) rfl dX12_init_103 ⟨Nat.le_of_ble_eq_true rfl, Nat.le_of_ble_eq_true rfl⟩ ?_
  refine c_putr (id := 176) rfl ff_X12_48 rfl rfl dX12_init_105 ?_
  refine n_aload_n (i := 0) dX12_init_108 rfl rfl ?_
  refine n_bipush (24 : Int32) dX12_init_109 (by decide) ?_
  refine c_arr (id := 190) (n := 24) wA_int rfl (by decide) (by decide) (by decide) rfl (by decide) (fun _ => rfl) (fun _ => rfl) rfl dX12_init_111 ⟨Nat.le_of_ble_eq_true rfl, Nat.le_of_ble_eq_true rfl⟩ ?_
  refine c_putr (id := 176) rfl ff_X12_51 rfl rfl dX12_init_113 ?_
  refine n_aload_n (i := 0) dX12_init_116 rfl rfl ?_
  refine n_bipush (24 : Int32) dX12_init_117 (by decide) ?_
  refine c_arr (id := 191) (n := 24) wA_int rfl (by decide) (by decide) (by decide) rfl (by decide) (fun _ => rfl) (fun _ => rfl) rfl dX12_init_119 ⟨Nat.le_of_ble_eq_true rfl, Nat.le_of_ble_eq_true rfl⟩ ?_
  refine c_putr (id := 176) rfl ff_X12_54 rfl rfl dX12_init_121 ?_
  refine n_aload_n (i := 0) dX12_init_124 rfl rfl ?_
  refine n_bipush (24 : Int32) dX12_init_125 (by decide) ?_
  refine c_arr (id := 192) (n := 24) wA_int rfl (by decide) (by decide) (by decide) rfl (by decide) (fun _ => rfl) (fun _ => rfl) rfl dX12_init_127 ⟨Nat.le_of_ble_eq_true rfl, Nat.le_of_ble_eq_true rfl⟩ ?_
  refine c_putr (id := 176) rfl ff_X12_57 rfl rfl dX12_init_129 ?_
  refine n_aload_n (i := 0) dX12_init_132 rfl rfl ?_
  refine n_bipush (24 : Int32) dX12_init_133 (by decide) ?_
  refine c_arr (id := 193) (n := 24) wA_int rfl (by decide) (by decide) (by decide) rfl (by decide) (fun _ => rfl) (fun _ => rfl) rfl dX12_init_135 ⟨Nat.le_of_ble_eq_true rfl, Nat.le_of_ble_eq_true rfl⟩ ?_
  refine c_putr (id := 176) rfl ff_X12_60 rfl rfl dX12_init_137 ?_
  refine n_aload_n (i := 0) dX12_init_140 rfl rfl ?_
  refine n_bipush (24 : Int32) dX12_init_141 (by decide) ?_
  refine c_arr (id := 194) (n := 24) wA_int rfl (by decide) (by decide) (by decide) rfl (by decide) (fun _ => rfl) (fun _ => rfl) rfl dX12_init_143 ⟨Nat.le_of_ble_eq_true rfl, Nat.le_of_ble_eq_true rfl⟩ ?_
  refine c_putr (id := 176) rfl ff_X12_63 rfl rfl dX12_init_145 ?_
  refine n_aload_n (i := 0) dX12_init_148 rfl rfl ?_
  refine n_bipush (24 : Int32) dX12_init_149 (by decide) ?_
  refine c_arr (id := 195) (n := 24) wA_int rfl (by decide) (by decide) (by decide) rfl (by decide) (fun _ => rfl) (fun _ => rfl) rfl dX12_init_151 ⟨Nat.le_of_ble_eq_true rfl, Nat.le_of_ble_eq_true rfl⟩ ?_
  refine c_putr (id := 176) rfl ff_X12_66 rfl rfl dX12_init_153 ?_
  refine n_aload_n (i := 0) dX12_init_156 rfl rfl ?_
  refine n_bipush (24 : Int32) dX12_init_157 (by decide) ?_
  refine c_arr (id := 196) (n := 24) wA_int rfl (by decide) (by decide) (by decide) rfl (by decide) (fun _ => rfl) (fun _ => rfl) rfl dX12_init_159 ⟨Nat.le_of_ble_eq_true rfl, Nat.le_of_ble_eq_true rfl⟩ ?_
  refine c_putr (id := 176) rfl ff_X12_69 rfl rfl dX12_init_161 ?_
  refine n_aload_n (i := 0) dX12_init_164 rfl rfl ?_
  refine n_bipush (24 : Int32) dX12_init_165 (by decide) ?_
  refine c_arr (id := 197) (n := 24) wA_int rfl (by decide) (by decide) (by decide) rfl (by decide) (fun _ => rfl) (fun _ => rfl) rfl dX12_init_167 ⟨Nat.le_of_ble_eq_true rfl, Nat.le_of_ble_eq_true rfl⟩ ?_
  refine c_putr (id := 176) rfl ff_X12_72 rfl rfl dX12_init_169 ?_
  refine n_aload_n (i := 0) dX12_init_172 rfl rfl ?_
  refine n_bipush (24 : Int32) dX12_init_173 (by decide) ?_
  refine c_arr (id := 198) (n := 24) wA_int rfl (by decide) (by decide) (by decide) rfl (by decide) (fun _ => rfl) (fun _ => rfl) rfl dX12_init_175 ⟨Nat.le_of_ble_eq_true rfl, Nat.le_of_ble_eq_true rfl⟩ ?_
  refine c_putr (id := 176) rfl ff_X12_75 rfl rfl dX12_init_177 ?_
  refine n_aload_n (i := 0) dX12_init_180 rfl rfl ?_
  refine n_bipush (24 : Int32) dX12_init_181 (by decide) ?_
  refine c_arr (id := 199) (n := 24) wA_int rfl (by decide) (by decide) (by decide) rfl (by decide) (fun _ => rfl) (fun _ => rfl) rfl dX12_init_183 ⟨Nat.le_of_ble_eq_true rfl, Nat.le_of_ble_eq_true rfl⟩ ?_
  refine c_putr (id := 176) rfl ff_X12_78 rfl rfl dX12_init_185 ?_
  refine n_aload_n (i := 0) dX12_init_188 rfl rfl ?_
  refine n_bipush (6 : Int32) dX12_init_189 (by decide) ?_
  refine n_bipush (6 : Int32) dX12_init_191 (by decide) ?_
  refine c_mna2 (id := 200) (n := 6) (k := 6) (ty := .int) wM_X12_81 (by decide) wA_int (by decide) (Or.inl rfl) (by decide) (by decide) (by decide) (by decide) (by decide +kernel) (by decide) (fun a j ha => ci_z1 (by omega) (by omega)) (by decide) dX12_init_193 ⟨Nat.le_of_ble_eq_true rfl, Nat.le_of_ble_eq_true rfl⟩ ?_
  refine c_putr (id := 176) rfl ff_X12_83 rfl rfl dX12_init_197 ?_
  refine n_aload_n (i := 0) dX12_init_200 rfl rfl ?_
  refine n_bipush (60 : Int32) dX12_init_201 (by decide) ?_
  refine c_arr (id := 207) (n := 60) wA_int rfl (by decide) (by decide) (by decide) rfl (by decide) (fun _ => rfl) (fun _ => rfl) rfl dX12_init_203 ⟨Nat.le_of_ble_eq_true rfl, Nat.le_of_ble_eq_true rfl⟩ ?_
  refine c_putr (id := 176) rfl ff_X12_86 rfl rfl dX12_init_205 ?_
  refine n_aload_n (i := 0) dX12_init_208 rfl rfl ?_
  refine n_bipush (60 : Int32) dX12_init_209 (by decide) ?_
  refine c_arr (id := 208) (n := 60) wA_int rfl (by decide) (by decide) (by decide) rfl (by decide) (fun _ => rfl) (fun _ => rfl) rfl dX12_init_211 ⟨Nat.le_of_ble_eq_true rfl, Nat.le_of_ble_eq_true rfl⟩ ?_
  refine c_putr (id := 176) rfl ff_X12_89 rfl rfl dX12_init_213 ?_
  refine n_aload_n (i := 0) dX12_init_216 rfl rfl ?_
  refine n_bipush (60 : Int32) dX12_init_217 (by decide) ?_
  refine c_arr (id := 209) (n := 60) wA_int rfl (by decide) (by decide) (by decide) rfl (by decide) (fun _ => rfl) (fun _ => rfl) rfl dX12_init_219 ⟨Nat.le_of_ble_eq_true rfl, Nat.le_of_ble_eq_true rfl⟩ ?_
  refine c_putr (id := 176) rfl ff_X12_92 rfl rfl dX12_init_221 ?_
  refine n_aload_n (i := 0) dX12_init_224 rfl rfl ?_
  refine n_bipush (60 : Int32) dX12_init_225 (by decide) ?_
  refine c_arr (id := 210) (n := 60) wA_int rfl (by decide) (by decide) (by decide) rfl (by decide) (fun _ => rfl) (fun _ => rfl) rfl dX12_init_227 ⟨Nat.le_of_ble_eq_true rfl, Nat.le_of_ble_eq_true rfl⟩ ?_
  refine c_putr (id := 176) rfl ff_X12_95 rfl rfl dX12_init_229 ?_
  refine n_aload_n (i := 0) dX12_init_232 rfl rfl ?_
  refine n_bipush (60 : Int32) dX12_init_233 (by decide) ?_
  refine c_arr (id := 211) (n := 60) wA_int rfl (by decide) (by decide) (by decide) rfl (by decide) (fun _ => rfl) (fun _ => rfl) rfl dX12_init_235 ⟨Nat.le_of_ble_eq_true rfl, Nat.le_of_ble_eq_true rfl⟩ ?_
  refine c_putr (id := 176) rfl ff_X12_98 rfl rfl dX12_init_237 ?_
  refine n_aload_n (i := 0) dX12_init_240 rfl rfl ?_
  refine n_bipush (60 : Int32) dX12_init_241 (by decide) ?_
  refine c_arr (id := 212) (n := 60) wA_int rfl (by decide) (by decide) (by decide) rfl (by decide) (fun _ => rfl) (fun _ => rfl) rfl dX12_init_243 ⟨Nat.le_of_ble_eq_true rfl, Nat.le_of_ble_eq_true rfl⟩ ?_
  refine c_putr (id := 176) rfl ff_X12_101 rfl rfl dX12_init_245 ?_
  refine n_aload_n (i := 0) dX12_init_248 rfl rfl ?_
  refine n_bipush (60 : Int32) dX12_init_249 (by decide) ?_
  refine c_arr (id := 213) (n := 60) wA_int rfl (by decide) (by decide) (by decide) rfl (by decide) (fun _ => rfl) (fun _ => rfl) rfl dX12_init_251 ⟨Nat.le_of_ble_eq_true rfl, Nat.le_of_ble_eq_true rfl⟩ ?_
  refine c_putr (id := 176) rfl ff_X12_104 rfl rfl dX12_init_253 ?_
  refine n_aload_n (i := 0) dX12_init_256 rfl rfl ?_
  refine n_bipush (40 : Int32) dX12_init_257 (by decide) ?_
  refine c_arr (id := 214) (n := 40) wA_int rfl (by decide) (by decide) (by decide) rfl (by decide) (fun _ => rfl) (fun _ => rfl) rfl dX12_init_259 ⟨Nat.le_of_ble_eq_true rfl, Nat.le_of_ble_eq_true rfl⟩ ?_
  refine c_putr (id := 176) rfl ff_X12_107 rfl rfl dX12_init_261 ?_
  refine n_aload_n (i := 0) dX12_init_264 rfl rfl ?_
  refine n_bipush (40 : Int32) dX12_init_265 (by decide) ?_
  refine c_arr (id := 215) (n := 40) wA_int rfl (by decide) (by decide) (by decide) rfl (by decide) (fun _ => rfl) (fun _ => rfl) rfl dX12_init_267 ⟨Nat.le_of_ble_eq_true rfl, Nat.le_of_ble_eq_true rfl⟩ ?_
  refine c_putr (id := 176) rfl ff_X12_110 rfl rfl dX12_init_269 ?_
  refine n_aload_n (i := 0) dX12_init_272 rfl rfl ?_
  refine n_bipush (40 : Int32) dX12_init_273 (by decide) ?_
  refine c_arr (id := 216) (n := 40) wA_int rfl (by decide) (by decide) (by decide) rfl (by decide) (fun _ => rfl) (fun _ => rfl) rfl dX12_init_275 ⟨Nat.le_of_ble_eq_true rfl, Nat.le_of_ble_eq_true rfl⟩ ?_
  refine c_putr (id := 176) rfl ff_X12_113 rfl rfl dX12_init_277 ?_
  refine n_aload_n (i := 0) dX12_init_280 rfl rfl ?_
  refine n_bipush (24 : Int32) dX12_init_281 (by decide) ?_
  refine n_bipush (24 : Int32) dX12_init_283 (by decide) ?_
  refine c_mna2 (id := 217) (n := 24) (k := 24) (ty := .int) wM_X12_81 (by decide) wA_int (by decide) (Or.inl rfl) (by decide) (by decide) (by decide) (by decide) (by decide +kernel) (by decide) (fun a j ha => ci_z1 (by omega) (by omega)) (by decide) dX12_init_285 ⟨Nat.le_of_ble_eq_true rfl, Nat.le_of_ble_eq_true rfl⟩ ?_
  refine c_putr (id := 176) rfl ff_X12_116 rfl rfl dX12_init_289 ?_
  refine n_aload_n (i := 0) dX12_init_292 rfl rfl ?_
  refine n_sipush (500 : Int32) dX12_init_293 (by decide) ?_
  refine c_arr (id := 242) (n := 500) wA_byte rfl (by decide) (by decide) (by decide) rfl (by decide) (fun _ => rfl) (fun _ => rfl) rfl dX12_init_296 ⟨Nat.le_of_ble_eq_true rfl, Nat.le_of_ble_eq_true rfl⟩ ?_
  refine c_putr (id := 176) rfl ff_X12_119 rfl rfl dX12_init_298 ?_
  refine n_aload_n (i := 0) dX12_init_301 rfl rfl ?_
  refine n_bipush (11 : Int32) dX12_init_302 (by decide) ?_
  refine n_bipush (6 : Int32) dX12_init_304 (by decide) ?_
  refine n_sipush (1040 : Int32) dX12_init_306 (by decide) ?_
  refine c_mna3 (id := 243) (n := 11) (k := 6) (z := 1040) wM3 wA_int (by decide) (by decide) (by decide) (by decide) (by decide +kernel) (by decide) (fun a j ha => ci_z1 (by omega) (by omega)) dX12_init_309 ⟨Nat.le_of_ble_eq_true rfl, Nat.le_of_ble_eq_true rfl⟩ ?_
  refine c_putr (id := 176) rfl ff_X12_125 rfl rfl dX12_init_313 ?_
  refine n_aload_n (i := 0) dX12_init_316 rfl rfl ?_
  refine n_bipush (11 : Int32) dX12_init_317 (by decide) ?_
  refine n_bipush (6 : Int32) dX12_init_319 (by decide) ?_
  refine c_mna2 (id := 321) (n := 11) (k := 6) (ty := .int) wM_X12_81 (by decide) wA_int (by decide) (Or.inl rfl) (by decide) (by decide) (by decide) (by decide) (by decide +kernel) (by decide) (fun a j ha => ci_z1 (by omega) (by omega)) (by decide) dX12_init_321 ⟨Nat.le_of_ble_eq_true rfl, Nat.le_of_ble_eq_true rfl⟩ ?_
  refine c_putr (id := 176) rfl ff_X12_128 rfl rfl dX12_init_325 ?_
  refine n_aload_n (i := 0) dX12_init_328 rfl rfl ?_
  refine n_bipush (10 : Int32) dX12_init_329 (by decide) ?_
  refine c_arr (id := 333) (n := 10) wA_int rfl (by decide) (by decide) (by decide) rfl (by decide) (fun _ => rfl) (fun _ => rfl) rfl dX12_init_331 ⟨Nat.le_of_ble_eq_true rfl, Nat.le_of_ble_eq_true rfl⟩ ?_
  refine c_putr (id := 176) rfl ff_X12_131 rfl rfl dX12_init_333 ?_
  refine n_aload_n (i := 0) dX12_init_336 rfl rfl ?_
  refine n_bipush (10 : Int32) dX12_init_337 (by decide) ?_
  refine c_arr (id := 334) (n := 10) wA_int rfl (by decide) (by decide) (by decide) rfl (by decide) (fun _ => rfl) (fun _ => rfl) rfl dX12_init_339 ⟨Nat.le_of_ble_eq_true rfl, Nat.le_of_ble_eq_true rfl⟩ ?_
  refine c_putr (id := 176) rfl ff_X12_134 rfl rfl dX12_init_341 ?_
  refine n_aload_n (i := 0) dX12_init_344 rfl rfl ?_
  refine n_bipush (6 : Int32) dX12_init_345 (by decide) ?_
  refine c_anS (id := 335) (n := 6) wS_137 (by decide) (by decide) rfl (by decide) (fun _ => rfl) dX12_init_347 ⟨Nat.le_of_ble_eq_true rfl, Nat.le_of_ble_eq_true rfl⟩ ?_
  refine n_dup dX12_init_350 rfl ?_
  refine n_iconst (0 : Int32) dX12_init_351 (by decide) ?_
  refine n_ldcS (i := 1) rfl dX12_init_352 ?_
  refine c_aastS (id := 335) (k := 0) ⟨rfl, ct_X12_365.2.2.1⟩ ⟨by decide, by decide⟩ rfl (by unfold vp_in; decide) (by decide) dX12_init_354 ?_
  refine n_dup dX12_init_355 rfl ?_
  refine n_iconst (1 : Int32) dX12_init_356 (by decide) ?_
  refine n_ldcS (i := 2) rfl dX12_init_357 ?_
  refine c_aastS (id := 335) (k := 1) ⟨rfl, ct_X12_365.2.2.1⟩ ⟨by decide, by decide⟩ rfl (by unfold vp_in; decide) (by decide) dX12_init_359 ?_
  refine n_dup dX12_init_360 rfl ?_
  refine n_iconst (2 : Int32) dX12_init_361 (by decide) ?_
  refine n_ldcS (i := 3) rfl dX12_init_362 ?_
  refine c_aastS (id := 335) (k := 2) ⟨rfl, ct_X12_365.2.2.1⟩ ⟨by decide, by decide⟩ rfl (by unfold vp_in; decide) (by decide) dX12_init_364 ?_
  refine n_dup dX12_init_365 rfl ?_
  refine n_iconst (3 : Int32) dX12_init_366 (by decide) ?_
  refine n_ldcS (i := 4) rfl dX12_init_367 ?_
  refine c_aastS (id := 335) (k := 3) ⟨rfl, ct_X12_365.2.2.1⟩ ⟨by decide, by decide⟩ rfl (by unfold vp_in; decide) (by decide) dX12_init_369 ?_
  refine n_dup dX12_init_370 rfl ?_
  refine n_iconst (4 : Int32) dX12_init_371 (by decide) ?_
  refine n_ldcS (i := 5) rfl dX12_init_372 ?_
  refine c_aastS (id := 335) (k := 4) ⟨rfl, ct_X12_365.2.2.1⟩ ⟨by decide, by decide⟩ rfl (by unfold vp_in; decide) (by decide) dX12_init_374 ?_
  refine n_dup dX12_init_375 rfl ?_
  refine n_iconst (5 : Int32) dX12_init_376 (by decide) ?_
  refine n_ldcS (i := 6) rfl dX12_init_377 ?_
  refine c_aastS (id := 335) (k := 5) ⟨rfl, ct_X12_365.2.2.1⟩ ⟨by decide, by decide⟩ rfl (by unfold vp_in; decide) (by decide) dX12_init_379 ?_
  refine c_putr (id := 176) rfl ff_X12_151 rfl rfl dX12_init_380 ?_
  refine n_aload_n (i := 0) dX12_init_383 rfl rfl ?_
  refine n_bipush (18 : Int32) dX12_init_384 (by decide) ?_
  refine c_anS (id := 336) (n := 18) wS_137 (by decide) (by decide) rfl (by decide) (fun _ => rfl) dX12_init_386 ⟨Nat.le_of_ble_eq_true rfl, Nat.le_of_ble_eq_true rfl⟩ ?_
  refine n_dup dX12_init_389 rfl ?_
  refine n_iconst (0 : Int32) dX12_init_390 (by decide) ?_
  refine n_ldcS (i := 7) rfl dX12_init_391 ?_
  refine c_aastS (id := 336) (k := 0) ⟨rfl, ct_X12_365.2.2.1⟩ ⟨by decide, by decide⟩ rfl (by unfold vp_in; decide) (by decide) dX12_init_393 ?_
  refine n_dup dX12_init_394 rfl ?_
  refine n_iconst (1 : Int32) dX12_init_395 (by decide) ?_
  refine n_ldcS (i := 8) rfl dX12_init_396 ?_
  refine c_aastS (id := 336) (k := 1) ⟨rfl, ct_X12_365.2.2.1⟩ ⟨by decide, by decide⟩ rfl (by unfold vp_in; decide) (by decide) dX12_init_398 ?_
  refine n_dup dX12_init_399 rfl ?_
  refine n_iconst (2 : Int32) dX12_init_400 (by decide) ?_
  refine n_ldcS (i := 9) rfl dX12_init_401 ?_
  refine c_aastS (id := 336) (k := 2) ⟨rfl, ct_X12_365.2.2.1⟩ ⟨by decide, by decide⟩ rfl (by unfold vp_in; decide) (by decide) dX12_init_403 ?_
  refine n_dup dX12_init_404 rfl ?_
  refine n_iconst (3 : Int32) dX12_init_405 (by decide) ?_
  refine n_ldcS (i := 10) rfl dX12_init_406 ?_
  refine c_aastS (id := 336) (k := 3) ⟨rfl, ct_X12_365.2.2.1⟩ ⟨by decide, by decide⟩ rfl (by unfold vp_in; decide) (by decide) dX12_init_408 ?_
  refine n_dup dX12_init_409 rfl ?_
  refine n_iconst (4 : Int32) dX12_init_410 (by decide) ?_
  refine n_ldcS (i := 11) rfl dX12_init_411 ?_
  refine c_aastS (id := 336) (k := 4) ⟨rfl, ct_X12_365.2.2.1⟩ ⟨by decide, by decide⟩ rfl (by unfold vp_in; decide) (by decide) dX12_init_413 ?_
  refine n_dup dX12_init_414 rfl ?_
  refine n_iconst (5 : Int32) dX12_init_415 (by decide) ?_
  refine n_ldcS (i := 12) rfl dX12_init_416 ?_
  refine c_aastS (id := 336) (k := 5) ⟨rfl, ct_X12_365.2.2.1⟩ ⟨by decide, by decide⟩ rfl (by unfold vp_in; decide) (by decide) dX12_init_418 ?_
  refine n_dup dX12_init_419 rfl ?_
  refine n_bipush (6 : Int32) dX12_init_420 (by decide) ?_
  refine n_ldcS (i := 13) rfl dX12_init_422 ?_
  refine c_aastS (id := 336) (k := 6) ⟨rfl, ct_X12_365.2.2.1⟩ ⟨by decide, by decide⟩ rfl (by unfold vp_in; decide) (by decide) dX12_init_424 ?_
  refine n_dup dX12_init_425 rfl ?_
  refine n_bipush (7 : Int32) dX12_init_426 (by decide) ?_
  refine n_ldcS (i := 14) rfl dX12_init_428 ?_
  refine c_aastS (id := 336) (k := 7) ⟨rfl, ct_X12_365.2.2.1⟩ ⟨by decide, by decide⟩ rfl (by unfold vp_in; decide) (by decide) dX12_init_430 ?_
  refine n_dup dX12_init_431 rfl ?_
  refine n_bipush (8 : Int32) dX12_init_432 (by decide) ?_
  refine n_ldcS (i := 15) rfl dX12_init_434 ?_
  refine c_aastS (id := 336) (k := 8) ⟨rfl, ct_X12_365.2.2.1⟩ ⟨by decide, by decide⟩ rfl (by unfold vp_in; decide) (by decide) dX12_init_436 ?_
  refine n_dup dX12_init_437 rfl ?_
  refine n_bipush (9 : Int32) dX12_init_438 (by decide) ?_
  refine n_ldcS (i := 16) rfl dX12_init_440 ?_
  refine c_aastS (id := 336) (k := 9) ⟨rfl, ct_X12_365.2.2.1⟩ ⟨by decide, by decide⟩ rfl (by unfold vp_in; decide) (by decide) dX12_init_442 ?_
  refine n_dup dX12_init_443 rfl ?_
  refine n_bipush (10 : Int32) dX12_init_444 (by decide) ?_
  refine n_ldcS (i := 17) rfl dX12_init_446 ?_
  refine c_aastS (id := 336) (k := 10) ⟨rfl, ct_X12_365.2.2.1⟩ ⟨by decide, by decide⟩ rfl (by unfold vp_in; decide) (by decide) dX12_init_448 ?_
  refine n_dup dX12_init_449 rfl ?_
  refine n_bipush (11 : Int32) dX12_init_450 (by decide) ?_
  refine n_ldcS (i := 18) rfl dX12_init_452 ?_
  refine c_aastS (id := 336) (k := 11) ⟨rfl, ct_X12_365.2.2.1⟩ ⟨by decide, by decide⟩ rfl (by unfold vp_in; decide) (by decide) dX12_init_454 ?_
  refine n_dup dX12_init_455 rfl ?_
  refine n_bipush (12 : Int32) dX12_init_456 (by decide) ?_
  refine n_ldcS (i := 19) rfl dX12_init_458 ?_
  refine c_aastS (id := 336) (k := 12) ⟨rfl, ct_X12_365.2.2.1⟩ ⟨by decide, by decide⟩ rfl (by unfold vp_in; decide) (by decide) dX12_init_460 ?_
  refine n_dup dX12_init_461 rfl ?_
  refine n_bipush (13 : Int32) dX12_init_462 (by decide) ?_
  refine n_ldcS (i := 20) rfl dX12_init_464 ?_
  refine c_aastS (id := 336) (k := 13) ⟨rfl, ct_X12_365.2.2.1⟩ ⟨by decide, by decide⟩ rfl (by unfold vp_in; decide) (by decide) dX12_init_466 ?_
  refine n_dup dX12_init_467 rfl ?_
  refine n_bipush (14 : Int32) dX12_init_468 (by decide) ?_
  refine n_ldcS (i := 21) rfl dX12_init_470 ?_
  refine c_aastS (id := 336) (k := 14) ⟨rfl, ct_X12_365.2.2.1⟩ ⟨by decide, by decide⟩ rfl (by unfold vp_in; decide) (by decide) dX12_init_472 ?_
  refine n_dup dX12_init_473 rfl ?_
  refine n_bipush (15 : Int32) dX12_init_474 (by decide) ?_
  refine n_ldcS (i := 22) rfl dX12_init_476 ?_
  refine c_aastS (id := 336) (k := 15) ⟨rfl, ct_X12_365.2.2.1⟩ ⟨by decide, by decide⟩ rfl (by unfold vp_in; decide) (by decide) dX12_init_478 ?_
  refine n_dup dX12_init_479 rfl ?_
  refine n_bipush (16 : Int32) dX12_init_480 (by decide) ?_
  refine n_ldcS (i := 23) rfl dX12_init_482 ?_
  refine c_aastS (id := 336) (k := 16) ⟨rfl, ct_X12_365.2.2.1⟩ ⟨by decide, by decide⟩ rfl (by unfold vp_in; decide) (by decide) dX12_init_484 ?_
  refine n_dup dX12_init_485 rfl ?_
  refine n_bipush (17 : Int32) dX12_init_486 (by decide) ?_
  refine n_ldcS (i := 24) rfl dX12_init_488 ?_
  refine c_aastS (id := 336) (k := 17) ⟨rfl, ct_X12_365.2.2.1⟩ ⟨by decide, by decide⟩ rfl (by unfold vp_in; decide) (by decide) dX12_init_490 ?_
  refine c_putr (id := 176) rfl ff_X12_181 rfl rfl dX12_init_491 ?_
  refine n_aload_n (i := 0) dX12_init_494 rfl rfl ?_
  refine n_iconst (-1 : Int32) dX12_init_495 (by decide) ?_
  refine c_puti (id := 176) fp_X12_184 rfl rfl rfl rfl dX12_init_496 ?_
  refine n_aload_n (i := 0) dX12_init_499 rfl rfl ?_
  refine n_bipush (18 : Int32) dX12_init_500 (by decide) ?_
  refine c_arr (id := 337) (n := 18) wA_int rfl (by decide) (by decide) (by decide) rfl (by decide) (fun _ => rfl) (fun _ => rfl) rfl dX12_init_502 ⟨Nat.le_of_ble_eq_true rfl, Nat.le_of_ble_eq_true rfl⟩ ?_
  refine c_putr (id := 176) rfl ff_X12_188 rfl rfl dX12_init_504 ?_
  refine n_aload_n (i := 0) dX12_init_507 rfl rfl ?_
  refine n_sipush (520 : Int32) dX12_init_508 (by decide) ?_
  refine c_arr (id := 338) (n := 520) wA_int rfl (by decide) (by decide) (by decide) rfl (by decide) (fun _ => rfl) (fun _ => rfl) rfl dX12_init_511 ⟨Nat.le_of_ble_eq_true rfl, Nat.le_of_ble_eq_true rfl⟩ ?_
  refine c_putr (id := 176) rfl ff_X12_191 rfl rfl dX12_init_513 ?_
  refine n_aload_n (i := 0) dX12_init_516 rfl rfl ?_
  refine n_bipush (24 : Int32) dX12_init_517 (by decide) ?_
  refine c_arr (id := 339) (n := 24) wA_int rfl (by decide) (by decide) (by decide) rfl (by decide) (fun _ => rfl) (fun _ => rfl) rfl dX12_init_519 ⟨Nat.le_of_ble_eq_true rfl, Nat.le_of_ble_eq_true rfl⟩ ?_
  refine c_putr (id := 176) rfl ff_X12_194 rfl rfl dX12_init_521 ?_
  refine n_aload_n (i := 0) dX12_init_524 rfl rfl ?_
  refine n_bipush (24 : Int32) dX12_init_525 (by decide) ?_
  refine c_arr (id := 340) (n := 24) wA_int rfl (by decide) (by decide) (by decide) rfl (by decide) (fun _ => rfl) (fun _ => rfl) rfl dX12_init_527 ⟨Nat.le_of_ble_eq_true rfl, Nat.le_of_ble_eq_true rfl⟩ ?_
  refine c_putr (id := 176) rfl ff_X12_197 rfl rfl dX12_init_529 ?_
  refine n_aload_n (i := 0) dX12_init_532 rfl rfl ?_
  refine n_bipush (24 : Int32) dX12_init_533 (by decide) ?_
  refine n_bipush (24 : Int32) dX12_init_535 (by decide) ?_
  refine c_mna2 (id := 341) (n := 24) (k := 24) (ty := .int) wM_X12_81 (by decide) wA_int (by decide) (Or.inl rfl) (by decide) (by decide) (by decide) (by decide) (by decide +kernel) (by decide) (fun a j ha => ci_z2 (by omega) (by omega)) (by decide) dX12_init_537 ⟨Nat.le_of_ble_eq_true rfl, Nat.le_of_ble_eq_true rfl⟩ ?_
  refine c_putr (id := 176) rfl ff_X12_200 rfl rfl dX12_init_541 ?_
  refine n_aload_n (i := 0) dX12_init_544 rfl rfl ?_
  refine n_bipush (24 : Int32) dX12_init_545 (by decide) ?_
  refine n_sipush (200 : Int32) dX12_init_547 (by decide) ?_
  refine c_mna2 (id := 366) (n := 24) (k := 200) (ty := .int) wM_X12_81 (by decide) wA_int (by decide) (Or.inl rfl) (by decide) (by decide) (by decide) (by decide) (by decide +kernel) (by decide) (fun a j ha => ci_z2 (by omega) (by omega)) (by decide) dX12_init_550 ⟨Nat.le_of_ble_eq_true rfl, Nat.le_of_ble_eq_true rfl⟩ ?_
  refine c_putr (id := 176) rfl ff_X12_203 rfl rfl dX12_init_554 ?_
  refine n_aload_n (i := 0) dX12_init_557 rfl rfl ?_
  refine n_sipush (200 : Int32) dX12_init_558 (by decide) ?_
  refine n_iconst (5 : Int32) dX12_init_561 (by decide) ?_
  refine c_mna2 (id := 391) (n := 200) (k := 5) (ty := .long) wM_X12_206 (by decide) wA_long (by decide) (Or.inr rfl) (by decide) (by decide) (by decide) (by decide) (by decide +kernel) (by decide) (fun a j ha => ci_z2 (by omega) (by omega)) (by decide) dX12_init_562 ⟨Nat.le_of_ble_eq_true rfl, Nat.le_of_ble_eq_true rfl⟩ ?_
  refine c_putr (id := 176) rfl ff_X12_208 rfl rfl dX12_init_566 ?_
  refine n_aload_n (i := 0) dX12_init_569 rfl rfl ?_
  refine n_bipush (6 : Int32) dX12_init_570 (by decide) ?_
  refine c_arr (id := 592) (n := 6) wA_int rfl (by decide) (by decide) (by decide) rfl (by decide) (fun _ => rfl) (fun _ => rfl) rfl dX12_init_572 ⟨Nat.le_of_ble_eq_true rfl, Nat.le_of_ble_eq_true rfl⟩ ?_
  refine c_putr (id := 176) rfl ff_X12_211 rfl rfl dX12_init_574 ?_
  refine n_aload_n (i := 0) dX12_init_577 rfl rfl ?_
  refine n_bipush (6 : Int32) dX12_init_578 (by decide) ?_
  refine c_arr (id := 593) (n := 6) wA_int rfl (by decide) (by decide) (by decide) rfl (by decide) (fun _ => rfl) (fun _ => rfl) rfl dX12_init_580 ⟨Nat.le_of_ble_eq_true rfl, Nat.le_of_ble_eq_true rfl⟩ ?_
  refine c_putr (id := 176) rfl ff_X12_214 rfl rfl dX12_init_582 ?_
  refine n_aload_n (i := 0) dX12_init_585 rfl rfl ?_
  refine n_bipush (6 : Int32) dX12_init_586 (by decide) ?_
  refine c_arr (id := 594) (n := 6) wA_int rfl (by decide) (by decide) (by decide) rfl (by decide) (fun _ => rfl) (fun _ => rfl) rfl dX12_init_588 ⟨Nat.le_of_ble_eq_true rfl, Nat.le_of_ble_eq_true rfl⟩ ?_
  refine c_putr (id := 176) rfl ff_X12_217 rfl rfl dX12_init_590 ?_
  refine n_aload_n (i := 0) dX12_init_593 rfl rfl ?_
  refine n_bipush (6 : Int32) dX12_init_594 (by decide) ?_
  refine c_arr (id := 595) (n := 6) wA_int rfl (by decide) (by decide) (by decide) rfl (by decide) (fun _ => rfl) (fun _ => rfl) rfl dX12_init_596 ⟨Nat.le_of_ble_eq_true rfl, Nat.le_of_ble_eq_true rfl⟩ ?_
  refine c_putr (id := 176) rfl ff_X12_220 rfl rfl dX12_init_598 ?_
  refine n_aload_n (i := 0) dX12_init_601 rfl rfl ?_
  refine n_bipush (6 : Int32) dX12_init_602 (by decide) ?_
  refine c_arr (id := 596) (n := 6) wA_int rfl (by decide) (by decide) (by decide) rfl (by decide) (fun _ => rfl) (fun _ => rfl) rfl dX12_init_604 ⟨Nat.le_of_ble_eq_true rfl, Nat.le_of_ble_eq_true rfl⟩ ?_
  refine c_putr (id := 176) rfl ff_X12_223 rfl rfl dX12_init_606 ?_
  refine n_aload_n (i := 0) dX12_init_609 rfl rfl ?_
  refine n_bipush (6 : Int32) dX12_init_610 (by decide) ?_
  refine c_arr (id := 597) (n := 6) wA_int rfl (by decide) (by decide) (by decide) rfl (by decide) (fun _ => rfl) (fun _ => rfl) rfl dX12_init_612 ⟨Nat.le_of_ble_eq_true rfl, Nat.le_of_ble_eq_true rfl⟩ ?_
  refine c_putr (id := 176) rfl ff_X12_226 rfl rfl dX12_init_614 ?_
  refine n_aload_n (i := 0) dX12_init_617 rfl rfl ?_
  refine n_bipush (40 : Int32) dX12_init_618 (by decide) ?_
  refine c_arr (id := 598) (n := 40) wA_int rfl (by decide) (by decide) (by decide) rfl (by decide) (fun _ => rfl) (fun _ => rfl) rfl dX12_init_620 ⟨Nat.le_of_ble_eq_true rfl, Nat.le_of_ble_eq_true rfl⟩ ?_
  refine c_putr (id := 176) rfl ff_X12_229 rfl rfl dX12_init_622 ?_
  refine n_aload_n (i := 0) dX12_init_625 rfl rfl ?_
  refine n_bipush (40 : Int32) dX12_init_626 (by decide) ?_
  refine c_arr (id := 599) (n := 40) wA_int rfl (by decide) (by decide) (by decide) rfl (by decide) (fun _ => rfl) (fun _ => rfl) rfl dX12_init_628 ⟨Nat.le_of_ble_eq_true rfl, Nat.le_of_ble_eq_true rfl⟩ ?_
  refine c_putr (id := 176) rfl ff_X12_232 rfl rfl dX12_init_630 ?_
  refine n_aload_n (i := 0) dX12_init_633 rfl rfl ?_
  refine n_bipush (40 : Int32) dX12_init_634 (by decide) ?_
  refine c_arr (id := 600) (n := 40) wA_int rfl (by decide) (by decide) (by decide) rfl (by decide) (fun _ => rfl) (fun _ => rfl) rfl dX12_init_636 ⟨Nat.le_of_ble_eq_true rfl, Nat.le_of_ble_eq_true rfl⟩ ?_
  refine c_putr (id := 176) rfl ff_X12_235 rfl rfl dX12_init_638 ?_
  refine n_aload_n (i := 0) dX12_init_641 rfl rfl ?_
  refine n_bipush (40 : Int32) dX12_init_642 (by decide) ?_
  refine c_arr (id := 601) (n := 40) wA_int rfl (by decide) (by decide) (by decide) rfl (by decide) (fun _ => rfl) (fun _ => rfl) rfl dX12_init_644 ⟨Nat.le_of_ble_eq_true rfl, Nat.le_of_ble_eq_true rfl⟩ ?_
  refine c_putr (id := 176) rfl ff_X12_238 rfl rfl dX12_init_646 ?_
  refine n_aload_n (i := 0) dX12_init_649 rfl rfl ?_
  refine n_bipush (40 : Int32) dX12_init_650 (by decide) ?_
  refine c_arr (id := 602) (n := 40) wA_int rfl (by decide) (by decide) (by decide) rfl (by decide) (fun _ => rfl) (fun _ => rfl) rfl dX12_init_652 ⟨Nat.le_of_ble_eq_true rfl, Nat.le_of_ble_eq_true rfl⟩ ?_
  refine c_putr (id := 176) rfl ff_X12_241 rfl rfl dX12_init_654 ?_
  exact n_vret dX12_init_657 rfl (Nat.le_of_ble_eq_true rfl) (Nat.le_of_ble_eq_true rfl) ⟨rfl, rfl⟩
