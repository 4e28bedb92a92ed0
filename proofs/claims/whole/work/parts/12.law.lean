/-! THE LAW: its cases, over what each pair of methods answers alike -/
def lawQ : Option Value → yb_M → Prop := fun v _ => v = some (.int 1)
theorem law_in0 {G : yb_G} {i : Nat} (h : i + 6 ≤ yb_n G ∧ yb_n G ≤ 3072) : vp_in (nI i + (0 : Int32)) (yb_n G) := by
  show vp_in (nI i + nI 0) (yb_n G)
  rw [nI_add]
  exact vp_in_nI (by omega) (by omega)
theorem law_in1 {G : yb_G} {i : Nat} (h : i + 6 ≤ yb_n G ∧ yb_n G ≤ 3072) : vp_in (nI i + (1 : Int32)) (yb_n G) := by
  show vp_in (nI i + nI 1) (yb_n G)
  rw [nI_add]
  exact vp_in_nI (by omega) (by omega)
theorem law_in2 {G : yb_G} {i : Nat} (h : i + 6 ≤ yb_n G ∧ yb_n G ≤ 3072) : vp_in (nI i + (2 : Int32)) (yb_n G) := by
  show vp_in (nI i + nI 2) (yb_n G)
  rw [nI_add]
  exact vp_in_nI (by omega) (by omega)
theorem law_in3 {G : yb_G} {i : Nat} (h : i + 6 ≤ yb_n G ∧ yb_n G ≤ 3072) : vp_in (nI i + (3 : Int32)) (yb_n G) := by
  show vp_in (nI i + nI 3) (yb_n G)
  rw [nI_add]
  exact vp_in_nI (by omega) (by omega)
theorem law_in4 {G : yb_G} {i : Nat} (h : i + 6 ≤ yb_n G ∧ yb_n G ≤ 3072) : vp_in (nI i + (4 : Int32)) (yb_n G) := by
  show vp_in (nI i + nI 4) (yb_n G)
  rw [nI_add]
  exact vp_in_nI (by omega) (by omega)
theorem law_in5 {G : yb_G} {i : Nat} (h : i + 6 ≤ yb_n G ∧ yb_n G ≤ 3072) : vp_in (nI i + (5 : Int32)) (yb_n G) := by
  show vp_in (nI i + nI 5) (yb_n G)
  rw [nI_add]
  exact vp_in_nI (by omega) (by omega)
theorem law_inz {G : yb_G} {i : Nat} (h : i + 6 ≤ yb_n G ∧ yb_n G ≤ 3072) : vp_in (nI i) (yb_n G) := vp_in_nI (by omega) (by omega)
theorem law_gt {G : yb_G} {i : Nat} (hN : yb_n G ≤ 3072) (h2 : i ≤ yb_n G + 6) (h : yb_n G < i + 6) : Int32.ofNat (yb_n G) - (6 : Int32) < nI i := by
  show nI (yb_n G) - nI 6 < nI i
  rw [Int32.lt_iff_toInt_lt, pk_sub_toInt (by omega) (by omega), nI_toInt (by omega)]
  omega
set_option maxHeartbeats 4000000 in
set_option maxRecDepth 20000 in
theorem law_op_0 {Inv : yb_S → Prop} (E : ∀ (a1 a2 a3 : Int32) (s : yb_S), Inv s → ∃ (r : Int32) (s1 s2 : yb_S), f_X11_town a1 a2 a3 s = some (r, s1) ∧ f_X12_town a1 a2 a3 s1 = some (r, s2) ∧ Inv s2) {G : yb_G} {s : yb_S} {X : List (FieldType × Nat)} {ce sl i : Nat} (hs : Inv s) (hi : i + 6 ≤ yb_n G ∧ yb_n G ≤ 3072) (hX : 603 + X.length + 1 ≤ 100000) (hce : ce + 1 ≤ 600000) (hsl : sl + 24 ≤ 7302249) (hnext : ∀ (s' : yb_S) (X' : List (FieldType × Nat)) (ce' sl' : Nat), Inv s' → X'.length ≤ X.length + 1 → ce' ≤ ce + 1 → sl' ≤ sl + 24 → Rn G RL cL_law 4 ret false room_1 lawQ ce' sl' 1723 [some (.ref (yb_b G)), some (.ref (yb_ad G 0)), some (.ref (yb_ad G 176)), some (.int (nI i))] [] (yb_mk s' X')) : Rn G RL cL_law 4 ret false room_1 lawQ ce sl 236 [some (.ref (yb_b G)), some (.ref (yb_ad G 0)), some (.ref (yb_ad G 176)), some (.int (nI i))] [] (yb_mk s X) := by
  have hz0 : ce ≤ room_1.cells ∧ sl ≤ room_1.slots := ⟨show ce ≤ 600000 by omega, show sl ≤ 7302249 by omega⟩
  obtain ⟨r, s1, s2, h1, h2, hI⟩ := E (yb_xs G (nI i + (1 : Int32)).toNatClampNeg) (yb_xs G (nI i + (2 : Int32)).toNatClampNeg) (yb_xs G (nI i + (3 : Int32)).toNatClampNeg) s hs
  refine n_aload_n (i := 1) dL_law_236 rfl rfl ?_
  refine n_aload_n (i := 0) dL_law_237 rfl rfl ?_
  refine n_iload_n (i := 3) dL_law_238 rfl rfl ?_
  refine n_iconst (1 : Int32) dL_law_239 (by decide) ?_
  refine n_iadd dL_law_240 ?_
  refine n_sld (law_in1 hi) dL_law_241 ?_
  refine n_aload_n (i := 0) dL_law_242 rfl rfl ?_
  refine n_iload_n (i := 3) dL_law_243 rfl rfl ?_
  refine n_iconst (2 : Int32) dL_law_244 (by decide) ?_
  refine n_iadd dL_law_245 ?_
  refine n_sld (law_in2 hi) dL_law_246 ?_
  refine n_aload_n (i := 0) dL_law_247 rfl rfl ?_
  refine n_iload_n (i := 3) dL_law_248 rfl rfl ?_
  refine n_iconst (3 : Int32) dL_law_249 (by decide) ?_
  refine n_iadd dL_law_250 ?_
  refine n_sld (law_in3 hi) dL_law_251 ?_
  refine p_callVi (As := [.int (yb_xs G (nI i + (1 : Int32)).toNatClampNeg), .int (yb_xs G (nI i + (2 : Int32)).toNatClampNeg), .int (yb_xs G (nI i + (3 : Int32)).toNatClampNeg)]) (t_X11_town h1) cv_L_13 (sh_0 _ _) rfl rfl (Nat.le_of_ble_eq_true rfl) dL_law_252 ⟨Nat.le_of_ble_eq_true rfl, Nat.le_of_ble_eq_true rfl⟩ ⟨rfl, rfl⟩ hz0 (fun _ => ?_)
  refine n_aload_n (i := 2) dL_law_255 rfl rfl ?_
  refine n_aload_n (i := 0) dL_law_256 rfl rfl ?_
  refine n_iload_n (i := 3) dL_law_257 rfl rfl ?_
  refine n_iconst (1 : Int32) dL_law_258 (by decide) ?_
  refine n_iadd dL_law_259 ?_
  refine n_sld (law_in1 hi) dL_law_260 ?_
  refine n_aload_n (i := 0) dL_law_261 rfl rfl ?_
  refine n_iload_n (i := 3) dL_law_262 rfl rfl ?_
  refine n_iconst (2 : Int32) dL_law_263 (by decide) ?_
  refine n_iadd dL_law_264 ?_
  refine n_sld (law_in2 hi) dL_law_265 ?_
  refine n_aload_n (i := 0) dL_law_266 rfl rfl ?_
  refine n_iload_n (i := 3) dL_law_267 rfl rfl ?_
  refine n_iconst (3 : Int32) dL_law_268 (by decide) ?_
  refine n_iadd dL_law_269 ?_
  refine n_sld (law_in3 hi) dL_law_270 ?_
  refine p_callVi (As := [.int (yb_xs G (nI i + (1 : Int32)).toNatClampNeg), .int (yb_xs G (nI i + (2 : Int32)).toNatClampNeg), .int (yb_xs G (nI i + (3 : Int32)).toNatClampNeg)]) (t_X12_town h2) cv_L_17 (sh_176 _ _) rfl rfl (Nat.le_of_ble_eq_true rfl) dL_law_271 ⟨Nat.le_of_ble_eq_true rfl, Nat.le_of_ble_eq_true rfl⟩ ⟨rfl, rfl⟩ hz0 (fun _ => ?_)
  refine n_icmp_eq 1723 dL_law_274 (by decide) (fun _ => ?_) (fun c => absurd rfl c)
  exact hnext s2 X ce sl hI (Nat.le_succ _) (Nat.le_succ _) (Nat.le_add_right _ _)
set_option maxHeartbeats 4000000 in
set_option maxRecDepth 20000 in
theorem law_op_1 {Inv : yb_S → Prop} (E : ∀ (a1 a2 : Int32) (s : yb_S), (a2 = 0 ∨ a2 = 1) → Inv s → ∃ (r : Int32) (s1 s2 : yb_S), f_X11_full a1 a2 s = some (r, s1) ∧ f_X12_full a1 a2 s1 = some (r, s2) ∧ Inv s2) {G : yb_G} {s : yb_S} {X : List (FieldType × Nat)} {ce sl i : Nat} (hs : Inv s) (hi : i + 6 ≤ yb_n G ∧ yb_n G ≤ 3072) (hX : 603 + X.length + 1 ≤ 100000) (hce : ce + 1 ≤ 600000) (hsl : sl + 24 ≤ 7302249) (hnext : ∀ (s' : yb_S) (X' : List (FieldType × Nat)) (ce' sl' : Nat), Inv s' → X'.length ≤ X.length + 1 → ce' ≤ ce + 1 → sl' ≤ sl + 24 → Rn G RL cL_law 4 ret false room_1 lawQ ce' sl' 1723 [some (.ref (yb_b G)), some (.ref (yb_ad G 0)), some (.ref (yb_ad G 176)), some (.int (nI i))] [] (yb_mk s' X')) : Rn G RL cL_law 4 ret false room_1 lawQ ce sl 279 [some (.ref (yb_b G)), some (.ref (yb_ad G 0)), some (.ref (yb_ad G 176)), some (.int (nI i))] [] (yb_mk s X) := by
  have hz0 : ce ≤ room_1.cells ∧ sl ≤ room_1.slots := ⟨show ce ≤ 600000 by omega, show sl ≤ 7302249 by omega⟩
  by_cases hz : (yb_xs G (nI i + (2 : Int32)).toNatClampNeg) = 0
  · skip
    obtain ⟨r, s1, s2, h1, h2, hI⟩ := E (yb_xs G (nI i + (1 : Int32)).toNatClampNeg) (0 : Int32) s (by decide) hs
    refine n_aload_n (i := 1) dL_law_279 rfl rfl ?_
    refine n_aload_n (i := 0) dL_law_280 rfl rfl ?_
    refine n_iload_n (i := 3) dL_law_281 rfl rfl ?_
    refine n_iconst (1 : Int32) dL_law_282 (by decide) ?_
    refine n_iadd dL_law_283 ?_
    refine n_sld (law_in1 hi) dL_law_284 ?_
    refine n_aload_n (i := 0) dL_law_285 rfl rfl ?_
    refine n_iload_n (i := 3) dL_law_286 rfl rfl ?_
    refine n_iconst (2 : Int32) dL_law_287 (by decide) ?_
    refine n_iadd dL_law_288 ?_
    refine n_sld (law_in2 hi) dL_law_289 ?_
    refine n_if_eq 297 dL_law_290 (by decide) (fun _ => ?_) (fun c => absurd hz c)
    refine n_iconst (0 : Int32) dL_law_297 (by decide) ?_
    refine p_callVi (As := [.int (yb_xs G (nI i + (1 : Int32)).toNatClampNeg), .int (0 : Int32)]) (t_X11_full h1) cv_L_18 (sh_0 _ _) rfl rfl (Nat.le_of_ble_eq_true rfl) dL_law_298 ⟨Nat.le_of_ble_eq_true rfl, Nat.le_of_ble_eq_true rfl⟩ ⟨rfl, rfl⟩ hz0 (fun _ => ?_)
    refine n_aload_n (i := 2) dL_law_301 rfl rfl ?_
    refine n_aload_n (i := 0) dL_law_302 rfl rfl ?_
    refine n_iload_n (i := 3) dL_law_303 rfl rfl ?_
    refine n_iconst (1 : Int32) dL_law_304 (by decide) ?_
    refine n_iadd dL_law_305 ?_
    refine n_sld (law_in1 hi) dL_law_306 ?_
    refine n_aload_n (i := 0) dL_law_307 rfl rfl ?_
    refine n_iload_n (i := 3) dL_law_308 rfl rfl ?_
    refine n_iconst (2 : Int32) dL_law_309 (by decide) ?_
    refine n_iadd dL_law_310 ?_
    refine n_sld (law_in2 hi) dL_law_311 ?_
    refine n_if_eq 319 dL_law_312 (by decide) (fun _ => ?_) (fun c => absurd hz c)
    refine n_iconst (0 : Int32) dL_law_319 (by decide) ?_
    refine p_callVi (As := [.int (yb_xs G (nI i + (1 : Int32)).toNatClampNeg), .int (0 : Int32)]) (t_X12_full h2) cv_L_22 (sh_176 _ _) rfl rfl (Nat.le_of_ble_eq_true rfl) dL_law_320 ⟨Nat.le_of_ble_eq_true rfl, Nat.le_of_ble_eq_true rfl⟩ ⟨rfl, rfl⟩ hz0 (fun _ => ?_)
    refine n_icmp_eq 1723 dL_law_323 (by decide) (fun _ => ?_) (fun c => absurd rfl c)
    exact hnext s2 X ce sl hI (Nat.le_succ _) (Nat.le_succ _) (Nat.le_add_right _ _)
  · skip
    obtain ⟨r, s1, s2, h1, h2, hI⟩ := E (yb_xs G (nI i + (1 : Int32)).toNatClampNeg) (1 : Int32) s (by decide) hs
    refine n_aload_n (i := 1) dL_law_279 rfl rfl ?_
    refine n_aload_n (i := 0) dL_law_280 rfl rfl ?_
    refine n_iload_n (i := 3) dL_law_281 rfl rfl ?_
    refine n_iconst (1 : Int32) dL_law_282 (by decide) ?_
    refine n_iadd dL_law_283 ?_
    refine n_sld (law_in1 hi) dL_law_284 ?_
    refine n_aload_n (i := 0) dL_law_285 rfl rfl ?_
    refine n_iload_n (i := 3) dL_law_286 rfl rfl ?_
    refine n_iconst (2 : Int32) dL_law_287 (by decide) ?_
    refine n_iadd dL_law_288 ?_
    refine n_sld (law_in2 hi) dL_law_289 ?_
    refine n_if_eq 297 dL_law_290 (by decide) (fun c => absurd c hz) (fun _ => ?_)
    refine n_iconst (1 : Int32) dL_law_293 (by decide) ?_
    refine n_goto 298 dL_law_294 (by decide) ?_
    refine p_callVi (As := [.int (yb_xs G (nI i + (1 : Int32)).toNatClampNeg), .int (1 : Int32)]) (t_X11_full h1) cv_L_18 (sh_0 _ _) rfl rfl (Nat.le_of_ble_eq_true rfl) dL_law_298 ⟨Nat.le_of_ble_eq_true rfl, Nat.le_of_ble_eq_true rfl⟩ ⟨rfl, rfl⟩ hz0 (fun _ => ?_)
    refine n_aload_n (i := 2) dL_law_301 rfl rfl ?_
    refine n_aload_n (i := 0) dL_law_302 rfl rfl ?_
    refine n_iload_n (i := 3) dL_law_303 rfl rfl ?_
    refine n_iconst (1 : Int32) dL_law_304 (by decide) ?_
    refine n_iadd dL_law_305 ?_
    refine n_sld (law_in1 hi) dL_law_306 ?_
    refine n_aload_n (i := 0) dL_law_307 rfl rfl ?_
    refine n_iload_n (i := 3) dL_law_308 rfl rfl ?_
    refine n_iconst (2 : Int32) dL_law_309 (by decide) ?_
    refine n_iadd dL_law_310 ?_
    refine n_sld (law_in2 hi) dL_law_311 ?_
    refine n_if_eq 319 dL_law_312 (by decide) (fun c => absurd c hz) (fun _ => ?_)
    refine n_iconst (1 : Int32) dL_law_315 (by decide) ?_
    refine n_goto 320 dL_law_316 (by decide) ?_
    refine p_callVi (As := [.int (yb_xs G (nI i + (1 : Int32)).toNatClampNeg), .int (1 : Int32)]) (t_X12_full h2) cv_L_22 (sh_176 _ _) rfl rfl (Nat.le_of_ble_eq_true rfl) dL_law_320 ⟨Nat.le_of_ble_eq_true rfl, Nat.le_of_ble_eq_true rfl⟩ ⟨rfl, rfl⟩ hz0 (fun _ => ?_)
    refine n_icmp_eq 1723 dL_law_323 (by decide) (fun _ => ?_) (fun c => absurd rfl c)
    exact hnext s2 X ce sl hI (Nat.le_succ _) (Nat.le_succ _) (Nat.le_add_right _ _)
set_option maxHeartbeats 4000000 in
set_option maxRecDepth 20000 in
theorem law_op_2 {Inv : yb_S → Prop} (E : ∀ (a1 a2 a3 : Int32) (s : yb_S), Inv s → ∃ (r : Int32) (s1 s2 : yb_S), f_X11_home a1 a2 a3 s = some (r, s1) ∧ f_X12_home a1 a2 a3 s1 = some (r, s2) ∧ Inv s2) {G : yb_G} {s : yb_S} {X : List (FieldType × Nat)} {ce sl i : Nat} (hs : Inv s) (hi : i + 6 ≤ yb_n G ∧ yb_n G ≤ 3072) (hX : 603 + X.length + 1 ≤ 100000) (hce : ce + 1 ≤ 600000) (hsl : sl + 24 ≤ 7302249) (hnext : ∀ (s' : yb_S) (X' : List (FieldType × Nat)) (ce' sl' : Nat), Inv s' → X'.length ≤ X.length + 1 → ce' ≤ ce + 1 → sl' ≤ sl + 24 → Rn G RL cL_law 4 ret false room_1 lawQ ce' sl' 1723 [some (.ref (yb_b G)), some (.ref (yb_ad G 0)), some (.ref (yb_ad G 176)), some (.int (nI i))] [] (yb_mk s' X')) : Rn G RL cL_law 4 ret false room_1 lawQ ce sl 328 [some (.ref (yb_b G)), some (.ref (yb_ad G 0)), some (.ref (yb_ad G 176)), some (.int (nI i))] [] (yb_mk s X) := by
  have hz0 : ce ≤ room_1.cells ∧ sl ≤ room_1.slots := ⟨show ce ≤ 600000 by omega, show sl ≤ 7302249 by omega⟩
  obtain ⟨r, s1, s2, h1, h2, hI⟩ := E (yb_xs G (nI i + (1 : Int32)).toNatClampNeg) (yb_xs G (nI i + (2 : Int32)).toNatClampNeg) (yb_xs G (nI i + (3 : Int32)).toNatClampNeg) s hs
  refine n_aload_n (i := 1) dL_law_328 rfl rfl ?_
  refine n_aload_n (i := 0) dL_law_329 rfl rfl ?_
  refine n_iload_n (i := 3) dL_law_330 rfl rfl ?_
  refine n_iconst (1 : Int32) dL_law_331 (by decide) ?_
  refine n_iadd dL_law_332 ?_
  refine n_sld (law_in1 hi) dL_law_333 ?_
  refine n_aload_n (i := 0) dL_law_334 rfl rfl ?_
  refine n_iload_n (i := 3) dL_law_335 rfl rfl ?_
  refine n_iconst (2 : Int32) dL_law_336 (by decide) ?_
  refine n_iadd dL_law_337 ?_
  refine n_sld (law_in2 hi) dL_law_338 ?_
  refine n_aload_n (i := 0) dL_law_339 rfl rfl ?_
  refine n_iload_n (i := 3) dL_law_340 rfl rfl ?_
  refine n_iconst (3 : Int32) dL_law_341 (by decide) ?_
  refine n_iadd dL_law_342 ?_
  refine n_sld (law_in3 hi) dL_law_343 ?_
  refine p_callVi (As := [.int (yb_xs G (nI i + (1 : Int32)).toNatClampNeg), .int (yb_xs G (nI i + (2 : Int32)).toNatClampNeg), .int (yb_xs G (nI i + (3 : Int32)).toNatClampNeg)]) (t_X11_home h1) cv_L_23 (sh_0 _ _) rfl rfl (Nat.le_of_ble_eq_true rfl) dL_law_344 ⟨Nat.le_of_ble_eq_true rfl, Nat.le_of_ble_eq_true rfl⟩ ⟨rfl, rfl⟩ hz0 (fun _ => ?_)
  refine n_aload_n (i := 2) dL_law_347 rfl rfl ?_
  refine n_aload_n (i := 0) dL_law_348 rfl rfl ?_
  refine n_iload_n (i := 3) dL_law_349 rfl rfl ?_
  refine n_iconst (1 : Int32) dL_law_350 (by decide) ?_
  refine n_iadd dL_law_351 ?_
  refine n_sld (law_in1 hi) dL_law_352 ?_
  refine n_aload_n (i := 0) dL_law_353 rfl rfl ?_
  refine n_iload_n (i := 3) dL_law_354 rfl rfl ?_
  refine n_iconst (2 : Int32) dL_law_355 (by decide) ?_
  refine n_iadd dL_law_356 ?_
  refine n_sld (law_in2 hi) dL_law_357 ?_
  refine n_aload_n (i := 0) dL_law_358 rfl rfl ?_
  refine n_iload_n (i := 3) dL_law_359 rfl rfl ?_
  refine n_iconst (3 : Int32) dL_law_360 (by decide) ?_
  refine n_iadd dL_law_361 ?_
  refine n_sld (law_in3 hi) dL_law_362 ?_
  refine p_callVi (As := [.int (yb_xs G (nI i + (1 : Int32)).toNatClampNeg), .int (yb_xs G (nI i + (2 : Int32)).toNatClampNeg), .int (yb_xs G (nI i + (3 : Int32)).toNatClampNeg)]) (t_X12_home h2) cv_L_26 (sh_176 _ _) rfl rfl (Nat.le_of_ble_eq_true rfl) dL_law_363 ⟨Nat.le_of_ble_eq_true rfl, Nat.le_of_ble_eq_true rfl⟩ ⟨rfl, rfl⟩ hz0 (fun _ => ?_)
  refine n_icmp_eq 1723 dL_law_366 (by decide) (fun _ => ?_) (fun c => absurd rfl c)
  exact hnext s2 X ce sl hI (Nat.le_succ _) (Nat.le_succ _) (Nat.le_add_right _ _)
set_option maxHeartbeats 4000000 in
set_option maxRecDepth 20000 in
theorem law_op_3 {Inv : yb_S → Prop} (E : ∀ (a1 : Int32) (s : yb_S), Inv s → ∃ (r : Int32) (s1 s2 : yb_S), f_X11_beds a1 s = some (r, s1) ∧ f_X12_beds a1 s1 = some (r, s2) ∧ Inv s2) {G : yb_G} {s : yb_S} {X : List (FieldType × Nat)} {ce sl i : Nat} (hs : Inv s) (hi : i + 6 ≤ yb_n G ∧ yb_n G ≤ 3072) (hX : 603 + X.length + 1 ≤ 100000) (hce : ce + 1 ≤ 600000) (hsl : sl + 24 ≤ 7302249) (hnext : ∀ (s' : yb_S) (X' : List (FieldType × Nat)) (ce' sl' : Nat), Inv s' → X'.length ≤ X.length + 1 → ce' ≤ ce + 1 → sl' ≤ sl + 24 → Rn G RL cL_law 4 ret false room_1 lawQ ce' sl' 1723 [some (.ref (yb_b G)), some (.ref (yb_ad G 0)), some (.ref (yb_ad G 176)), some (.int (nI i))] [] (yb_mk s' X')) : Rn G RL cL_law 4 ret false room_1 lawQ ce sl 371 [some (.ref (yb_b G)), some (.ref (yb_ad G 0)), some (.ref (yb_ad G 176)), some (.int (nI i))] [] (yb_mk s X) := by
  have hz0 : ce ≤ room_1.cells ∧ sl ≤ room_1.slots := ⟨show ce ≤ 600000 by omega, show sl ≤ 7302249 by omega⟩
  obtain ⟨r, s1, s2, h1, h2, hI⟩ := E (yb_xs G (nI i + (1 : Int32)).toNatClampNeg) s hs
  refine n_aload_n (i := 1) dL_law_371 rfl rfl ?_
  refine n_aload_n (i := 0) dL_law_372 rfl rfl ?_
  refine n_iload_n (i := 3) dL_law_373 rfl rfl ?_
  refine n_iconst (1 : Int32) dL_law_374 (by decide) ?_
  refine n_iadd dL_law_375 ?_
  refine n_sld (law_in1 hi) dL_law_376 ?_
  refine p_callVi (As := [.int (yb_xs G (nI i + (1 : Int32)).toNatClampNeg)]) (t_X11_beds h1) cv_L_27 (sh_0 _ _) rfl rfl (Nat.le_of_ble_eq_true rfl) dL_law_377 ⟨Nat.le_of_ble_eq_true rfl, Nat.le_of_ble_eq_true rfl⟩ ⟨rfl, rfl⟩ hz0 (fun _ => ?_)
  refine n_aload_n (i := 2) dL_law_380 rfl rfl ?_
  refine n_aload_n (i := 0) dL_law_381 rfl rfl ?_
  refine n_iload_n (i := 3) dL_law_382 rfl rfl ?_
  refine n_iconst (1 : Int32) dL_law_383 (by decide) ?_
  refine n_iadd dL_law_384 ?_
  refine n_sld (law_in1 hi) dL_law_385 ?_
  refine p_callVi (As := [.int (yb_xs G (nI i + (1 : Int32)).toNatClampNeg)]) (t_X12_beds h2) cv_L_31 (sh_176 _ _) rfl rfl (Nat.le_of_ble_eq_true rfl) dL_law_386 ⟨Nat.le_of_ble_eq_true rfl, Nat.le_of_ble_eq_true rfl⟩ ⟨rfl, rfl⟩ hz0 (fun _ => ?_)
  refine n_icmp_eq 1723 dL_law_389 (by decide) (fun _ => ?_) (fun c => absurd rfl c)
  exact hnext s2 X ce sl hI (Nat.le_succ _) (Nat.le_succ _) (Nat.le_add_right _ _)
set_option maxHeartbeats 4000000 in
set_option maxRecDepth 20000 in
theorem law_op_4 {Inv : yb_S → Prop} (E : ∀ (a1 a2 : Int32) (s : yb_S), Inv s → ∃ (r : Int32) (s1 s2 : yb_S), f_X11_family a1 a2 s = some (r, s1) ∧ f_X12_family a1 a2 s1 = some (r, s2) ∧ Inv s2) {G : yb_G} {s : yb_S} {X : List (FieldType × Nat)} {ce sl i : Nat} (hs : Inv s) (hi : i + 6 ≤ yb_n G ∧ yb_n G ≤ 3072) (hX : 603 + X.length + 1 ≤ 100000) (hce : ce + 1 ≤ 600000) (hsl : sl + 24 ≤ 7302249) (hnext : ∀ (s' : yb_S) (X' : List (FieldType × Nat)) (ce' sl' : Nat), Inv s' → X'.length ≤ X.length + 1 → ce' ≤ ce + 1 → sl' ≤ sl + 24 → Rn G RL cL_law 4 ret false room_1 lawQ ce' sl' 1723 [some (.ref (yb_b G)), some (.ref (yb_ad G 0)), some (.ref (yb_ad G 176)), some (.int (nI i))] [] (yb_mk s' X')) : Rn G RL cL_law 4 ret false room_1 lawQ ce sl 394 [some (.ref (yb_b G)), some (.ref (yb_ad G 0)), some (.ref (yb_ad G 176)), some (.int (nI i))] [] (yb_mk s X) := by
  have hz0 : ce ≤ room_1.cells ∧ sl ≤ room_1.slots := ⟨show ce ≤ 600000 by omega, show sl ≤ 7302249 by omega⟩
  obtain ⟨r, s1, s2, h1, h2, hI⟩ := E (yb_xs G (nI i + (1 : Int32)).toNatClampNeg) (yb_xs G (nI i + (2 : Int32)).toNatClampNeg) s hs
  refine n_aload_n (i := 1) dL_law_394 rfl rfl ?_
  refine n_aload_n (i := 0) dL_law_395 rfl rfl ?_
  refine n_iload_n (i := 3) dL_law_396 rfl rfl ?_
  refine n_iconst (1 : Int32) dL_law_397 (by decide) ?_
  refine n_iadd dL_law_398 ?_
  refine n_sld (law_in1 hi) dL_law_399 ?_
  refine n_aload_n (i := 0) dL_law_400 rfl rfl ?_
  refine n_iload_n (i := 3) dL_law_401 rfl rfl ?_
  refine n_iconst (2 : Int32) dL_law_402 (by decide) ?_
  refine n_iadd dL_law_403 ?_
  refine n_sld (law_in2 hi) dL_law_404 ?_
  refine p_callVi (As := [.int (yb_xs G (nI i + (1 : Int32)).toNatClampNeg), .int (yb_xs G (nI i + (2 : Int32)).toNatClampNeg)]) (t_X11_family h1) cv_L_32 (sh_0 _ _) rfl rfl (Nat.le_of_ble_eq_true rfl) dL_law_405 ⟨Nat.le_of_ble_eq_true rfl, Nat.le_of_ble_eq_true rfl⟩ ⟨rfl, rfl⟩ hz0 (fun _ => ?_)
  refine n_aload_n (i := 2) dL_law_408 rfl rfl ?_
  refine n_aload_n (i := 0) dL_law_409 rfl rfl ?_
  refine n_iload_n (i := 3) dL_law_410 rfl rfl ?_
  refine n_iconst (1 : Int32) dL_law_411 (by decide) ?_
  refine n_iadd dL_law_412 ?_
  refine n_sld (law_in1 hi) dL_law_413 ?_
  refine n_aload_n (i := 0) dL_law_414 rfl rfl ?_
  refine n_iload_n (i := 3) dL_law_415 rfl rfl ?_
  refine n_iconst (2 : Int32) dL_law_416 (by decide) ?_
  refine n_iadd dL_law_417 ?_
  refine n_sld (law_in2 hi) dL_law_418 ?_
  refine p_callVi (As := [.int (yb_xs G (nI i + (1 : Int32)).toNatClampNeg), .int (yb_xs G (nI i + (2 : Int32)).toNatClampNeg)]) (t_X12_family h2) cv_L_36 (sh_176 _ _) rfl rfl (Nat.le_of_ble_eq_true rfl) dL_law_419 ⟨Nat.le_of_ble_eq_true rfl, Nat.le_of_ble_eq_true rfl⟩ ⟨rfl, rfl⟩ hz0 (fun _ => ?_)
  refine n_icmp_eq 1723 dL_law_422 (by decide) (fun _ => ?_) (fun c => absurd rfl c)
  exact hnext s2 X ce sl hI (Nat.le_succ _) (Nat.le_succ _) (Nat.le_add_right _ _)
set_option maxHeartbeats 4000000 in
set_option maxRecDepth 20000 in
theorem law_op_5 {Inv : yb_S → Prop} (E : ∀ (a1 a2 : Int32) (s : yb_S), Inv s → ∃ (r : Int32) (s1 s2 : yb_S), f_X11_wish a1 a2 s = some (r, s1) ∧ f_X12_wish a1 a2 s1 = some (r, s2) ∧ Inv s2) {G : yb_G} {s : yb_S} {X : List (FieldType × Nat)} {ce sl i : Nat} (hs : Inv s) (hi : i + 6 ≤ yb_n G ∧ yb_n G ≤ 3072) (hX : 603 + X.length + 1 ≤ 100000) (hce : ce + 1 ≤ 600000) (hsl : sl + 24 ≤ 7302249) (hnext : ∀ (s' : yb_S) (X' : List (FieldType × Nat)) (ce' sl' : Nat), Inv s' → X'.length ≤ X.length + 1 → ce' ≤ ce + 1 → sl' ≤ sl + 24 → Rn G RL cL_law 4 ret false room_1 lawQ ce' sl' 1723 [some (.ref (yb_b G)), some (.ref (yb_ad G 0)), some (.ref (yb_ad G 176)), some (.int (nI i))] [] (yb_mk s' X')) : Rn G RL cL_law 4 ret false room_1 lawQ ce sl 427 [some (.ref (yb_b G)), some (.ref (yb_ad G 0)), some (.ref (yb_ad G 176)), some (.int (nI i))] [] (yb_mk s X) := by
  have hz0 : ce ≤ room_1.cells ∧ sl ≤ room_1.slots := ⟨show ce ≤ 600000 by omega, show sl ≤ 7302249 by omega⟩
  obtain ⟨r, s1, s2, h1, h2, hI⟩ := E (yb_xs G (nI i + (1 : Int32)).toNatClampNeg) (yb_xs G (nI i + (2 : Int32)).toNatClampNeg) s hs
  refine n_aload_n (i := 1) dL_law_427 rfl rfl ?_
  refine n_aload_n (i := 0) dL_law_428 rfl rfl ?_
  refine n_iload_n (i := 3) dL_law_429 rfl rfl ?_
  refine n_iconst (1 : Int32) dL_law_430 (by decide) ?_
  refine n_iadd dL_law_431 ?_
  refine n_sld (law_in1 hi) dL_law_432 ?_
  refine n_aload_n (i := 0) dL_law_433 rfl rfl ?_
  refine n_iload_n (i := 3) dL_law_434 rfl rfl ?_
  refine n_iconst (2 : Int32) dL_law_435 (by decide) ?_
  refine n_iadd dL_law_436 ?_
  refine n_sld (law_in2 hi) dL_law_437 ?_
  refine p_callVi (As := [.int (yb_xs G (nI i + (1 : Int32)).toNatClampNeg), .int (yb_xs G (nI i + (2 : Int32)).toNatClampNeg)]) (t_X11_wish h1) cv_L_37 (sh_0 _ _) rfl rfl (Nat.le_of_ble_eq_true rfl) dL_law_438 ⟨Nat.le_of_ble_eq_true rfl, Nat.le_of_ble_eq_true rfl⟩ ⟨rfl, rfl⟩ hz0 (fun _ => ?_)
  refine n_aload_n (i := 2) dL_law_441 rfl rfl ?_
  refine n_aload_n (i := 0) dL_law_442 rfl rfl ?_
  refine n_iload_n (i := 3) dL_law_443 rfl rfl ?_
  refine n_iconst (1 : Int32) dL_law_444 (by decide) ?_
  refine n_iadd dL_law_445 ?_
  refine n_sld (law_in1 hi) dL_law_446 ?_
  refine n_aload_n (i := 0) dL_law_447 rfl rfl ?_
  refine n_iload_n (i := 3) dL_law_448 rfl rfl ?_
  refine n_iconst (2 : Int32) dL_law_449 (by decide) ?_
  refine n_iadd dL_law_450 ?_
  refine n_sld (law_in2 hi) dL_law_451 ?_
  refine p_callVi (As := [.int (yb_xs G (nI i + (1 : Int32)).toNatClampNeg), .int (yb_xs G (nI i + (2 : Int32)).toNatClampNeg)]) (t_X12_wish h2) cv_L_41 (sh_176 _ _) rfl rfl (Nat.le_of_ble_eq_true rfl) dL_law_452 ⟨Nat.le_of_ble_eq_true rfl, Nat.le_of_ble_eq_true rfl⟩ ⟨rfl, rfl⟩ hz0 (fun _ => ?_)
  refine n_icmp_eq 1723 dL_law_455 (by decide) (fun _ => ?_) (fun c => absurd rfl c)
  exact hnext s2 X ce sl hI (Nat.le_succ _) (Nat.le_succ _) (Nat.le_add_right _ _)
set_option maxHeartbeats 4000000 in
set_option maxRecDepth 20000 in
theorem law_op_6 {Inv : yb_S → Prop} (E : ∀ (a1 a2 a3 : Int32) (s : yb_S), Inv s → ∃ (r : Int32) (s1 s2 : yb_S), f_X11_apart a1 a2 a3 s = some (r, s1) ∧ f_X12_apart a1 a2 a3 s1 = some (r, s2) ∧ Inv s2) {G : yb_G} {s : yb_S} {X : List (FieldType × Nat)} {ce sl i : Nat} (hs : Inv s) (hi : i + 6 ≤ yb_n G ∧ yb_n G ≤ 3072) (hX : 603 + X.length + 1 ≤ 100000) (hce : ce + 1 ≤ 600000) (hsl : sl + 24 ≤ 7302249) (hnext : ∀ (s' : yb_S) (X' : List (FieldType × Nat)) (ce' sl' : Nat), Inv s' → X'.length ≤ X.length + 1 → ce' ≤ ce + 1 → sl' ≤ sl + 24 → Rn G RL cL_law 4 ret false room_1 lawQ ce' sl' 1723 [some (.ref (yb_b G)), some (.ref (yb_ad G 0)), some (.ref (yb_ad G 176)), some (.int (nI i))] [] (yb_mk s' X')) : Rn G RL cL_law 4 ret false room_1 lawQ ce sl 460 [some (.ref (yb_b G)), some (.ref (yb_ad G 0)), some (.ref (yb_ad G 176)), some (.int (nI i))] [] (yb_mk s X) := by
  have hz0 : ce ≤ room_1.cells ∧ sl ≤ room_1.slots := ⟨show ce ≤ 600000 by omega, show sl ≤ 7302249 by omega⟩
  obtain ⟨r, s1, s2, h1, h2, hI⟩ := E (yb_xs G (nI i + (1 : Int32)).toNatClampNeg) (yb_xs G (nI i + (2 : Int32)).toNatClampNeg) (yb_xs G (nI i + (3 : Int32)).toNatClampNeg) s hs
  refine n_aload_n (i := 1) dL_law_460 rfl rfl ?_
  refine n_aload_n (i := 0) dL_law_461 rfl rfl ?_
  refine n_iload_n (i := 3) dL_law_462 rfl rfl ?_
  refine n_iconst (1 : Int32) dL_law_463 (by decide) ?_
  refine n_iadd dL_law_464 ?_
  refine n_sld (law_in1 hi) dL_law_465 ?_
  refine n_aload_n (i := 0) dL_law_466 rfl rfl ?_
  refine n_iload_n (i := 3) dL_law_467 rfl rfl ?_
  refine n_iconst (2 : Int32) dL_law_468 (by decide) ?_
  refine n_iadd dL_law_469 ?_
  refine n_sld (law_in2 hi) dL_law_470 ?_
  refine n_aload_n (i := 0) dL_law_471 rfl rfl ?_
  refine n_iload_n (i := 3) dL_law_472 rfl rfl ?_
  refine n_iconst (3 : Int32) dL_law_473 (by decide) ?_
  refine n_iadd dL_law_474 ?_
  refine n_sld (law_in3 hi) dL_law_475 ?_
  refine p_callVi (As := [.int (yb_xs G (nI i + (1 : Int32)).toNatClampNeg), .int (yb_xs G (nI i + (2 : Int32)).toNatClampNeg), .int (yb_xs G (nI i + (3 : Int32)).toNatClampNeg)]) (t_X11_apart h1) cv_L_42 (sh_0 _ _) rfl rfl (Nat.le_of_ble_eq_true rfl) dL_law_476 ⟨Nat.le_of_ble_eq_true rfl, Nat.le_of_ble_eq_true rfl⟩ ⟨rfl, rfl⟩ hz0 (fun _ => ?_)
  refine n_aload_n (i := 2) dL_law_479 rfl rfl ?_
  refine n_aload_n (i := 0) dL_law_480 rfl rfl ?_
  refine n_iload_n (i := 3) dL_law_481 rfl rfl ?_
  refine n_iconst (1 : Int32) dL_law_482 (by decide) ?_
  refine n_iadd dL_law_483 ?_
  refine n_sld (law_in1 hi) dL_law_484 ?_
  refine n_aload_n (i := 0) dL_law_485 rfl rfl ?_
  refine n_iload_n (i := 3) dL_law_486 rfl rfl ?_
  refine n_iconst (2 : Int32) dL_law_487 (by decide) ?_
  refine n_iadd dL_law_488 ?_
  refine n_sld (law_in2 hi) dL_law_489 ?_
  refine n_aload_n (i := 0) dL_law_490 rfl rfl ?_
  refine n_iload_n (i := 3) dL_law_491 rfl rfl ?_
  refine n_iconst (3 : Int32) dL_law_492 (by decide) ?_
  refine n_iadd dL_law_493 ?_
  refine n_sld (law_in3 hi) dL_law_494 ?_
  refine p_callVi (As := [.int (yb_xs G (nI i + (1 : Int32)).toNatClampNeg), .int (yb_xs G (nI i + (2 : Int32)).toNatClampNeg), .int (yb_xs G (nI i + (3 : Int32)).toNatClampNeg)]) (t_X12_apart h2) cv_L_46 (sh_176 _ _) rfl rfl (Nat.le_of_ble_eq_true rfl) dL_law_495 ⟨Nat.le_of_ble_eq_true rfl, Nat.le_of_ble_eq_true rfl⟩ ⟨rfl, rfl⟩ hz0 (fun _ => ?_)
  refine n_icmp_eq 1723 dL_law_498 (by decide) (fun _ => ?_) (fun c => absurd rfl c)
  exact hnext s2 X ce sl hI (Nat.le_succ _) (Nat.le_succ _) (Nat.le_add_right _ _)
set_option maxHeartbeats 4000000 in
set_option maxRecDepth 20000 in
theorem law_op_7 {Inv : yb_S → Prop} (E : ∀ (a1 a2 a3 a4 a5 : Int32) (s : yb_S), Inv s → ∃ (r : Int32) (s1 s2 : yb_S), f_X11_record a1 a2 a3 a4 a5 s = some (r, s1) ∧ f_X12_record a1 a2 a3 a4 a5 s1 = some (r, s2) ∧ Inv s2) {G : yb_G} {s : yb_S} {X : List (FieldType × Nat)} {ce sl i : Nat} (hs : Inv s) (hi : i + 6 ≤ yb_n G ∧ yb_n G ≤ 3072) (hX : 603 + X.length + 1 ≤ 100000) (hce : ce + 1 ≤ 600000) (hsl : sl + 24 ≤ 7302249) (hnext : ∀ (s' : yb_S) (X' : List (FieldType × Nat)) (ce' sl' : Nat), Inv s' → X'.length ≤ X.length + 1 → ce' ≤ ce + 1 → sl' ≤ sl + 24 → Rn G RL cL_law 4 ret false room_1 lawQ ce' sl' 1723 [some (.ref (yb_b G)), some (.ref (yb_ad G 0)), some (.ref (yb_ad G 176)), some (.int (nI i))] [] (yb_mk s' X')) : Rn G RL cL_law 4 ret false room_1 lawQ ce sl 503 [some (.ref (yb_b G)), some (.ref (yb_ad G 0)), some (.ref (yb_ad G 176)), some (.int (nI i))] [] (yb_mk s X) := by
  have hz0 : ce ≤ room_1.cells ∧ sl ≤ room_1.slots := ⟨show ce ≤ 600000 by omega, show sl ≤ 7302249 by omega⟩
  obtain ⟨r, s1, s2, h1, h2, hI⟩ := E (yb_xs G (nI i + (1 : Int32)).toNatClampNeg) (yb_xs G (nI i + (2 : Int32)).toNatClampNeg) (yb_xs G (nI i + (3 : Int32)).toNatClampNeg) (yb_xs G (nI i + (4 : Int32)).toNatClampNeg) (yb_xs G (nI i + (5 : Int32)).toNatClampNeg) s hs
  refine n_aload_n (i := 1) dL_law_503 rfl rfl ?_
  refine n_aload_n (i := 0) dL_law_504 rfl rfl ?_
  refine n_iload_n (i := 3) dL_law_505 rfl rfl ?_
  refine n_iconst (1 : Int32) dL_law_506 (by decide) ?_
  refine n_iadd dL_law_507 ?_
  refine n_sld (law_in1 hi) dL_law_508 ?_
  refine n_aload_n (i := 0) dL_law_509 rfl rfl ?_
  refine n_iload_n (i := 3) dL_law_510 rfl rfl ?_
  refine n_iconst (2 : Int32) dL_law_511 (by decide) ?_
  refine n_iadd dL_law_512 ?_
  refine n_sld (law_in2 hi) dL_law_513 ?_
  refine n_aload_n (i := 0) dL_law_514 rfl rfl ?_
  refine n_iload_n (i := 3) dL_law_515 rfl rfl ?_
  refine n_iconst (3 : Int32) dL_law_516 (by decide) ?_
  refine n_iadd dL_law_517 ?_
  refine n_sld (law_in3 hi) dL_law_518 ?_
  refine n_aload_n (i := 0) dL_law_519 rfl rfl ?_
  refine n_iload_n (i := 3) dL_law_520 rfl rfl ?_
  refine n_iconst (4 : Int32) dL_law_521 (by decide) ?_
  refine n_iadd dL_law_522 ?_
  refine n_sld (law_in4 hi) dL_law_523 ?_
  refine n_aload_n (i := 0) dL_law_524 rfl rfl ?_
  refine n_iload_n (i := 3) dL_law_525 rfl rfl ?_
  refine n_iconst (5 : Int32) dL_law_526 (by decide) ?_
  refine n_iadd dL_law_527 ?_
  refine n_sld (law_in5 hi) dL_law_528 ?_
  refine p_callVi (As := [.int (yb_xs G (nI i + (1 : Int32)).toNatClampNeg), .int (yb_xs G (nI i + (2 : Int32)).toNatClampNeg), .int (yb_xs G (nI i + (3 : Int32)).toNatClampNeg), .int (yb_xs G (nI i + (4 : Int32)).toNatClampNeg), .int (yb_xs G (nI i + (5 : Int32)).toNatClampNeg)]) (t_X11_record h1) cv_L_47 (sh_0 _ _) rfl rfl (Nat.le_of_ble_eq_true rfl) dL_law_529 ⟨Nat.le_of_ble_eq_true rfl, Nat.le_of_ble_eq_true rfl⟩ ⟨rfl, rfl⟩ hz0 (fun _ => ?_)
  refine n_aload_n (i := 2) dL_law_532 rfl rfl ?_
  refine n_aload_n (i := 0) dL_law_533 rfl rfl ?_
  refine n_iload_n (i := 3) dL_law_534 rfl rfl ?_
  refine n_iconst (1 : Int32) dL_law_535 (by decide) ?_
  refine n_iadd dL_law_536 ?_
  refine n_sld (law_in1 hi) dL_law_537 ?_
  refine n_aload_n (i := 0) dL_law_538 rfl rfl ?_
  refine n_iload_n (i := 3) dL_law_539 rfl rfl ?_
  refine n_iconst (2 : Int32) dL_law_540 (by decide) ?_
  refine n_iadd dL_law_541 ?_
  refine n_sld (law_in2 hi) dL_law_542 ?_
  refine n_aload_n (i := 0) dL_law_543 rfl rfl ?_
  refine n_iload_n (i := 3) dL_law_544 rfl rfl ?_
  refine n_iconst (3 : Int32) dL_law_545 (by decide) ?_
  refine n_iadd dL_law_546 ?_
  refine n_sld (law_in3 hi) dL_law_547 ?_
  refine n_aload_n (i := 0) dL_law_548 rfl rfl ?_
  refine n_iload_n (i := 3) dL_law_549 rfl rfl ?_
  refine n_iconst (4 : Int32) dL_law_550 (by decide) ?_
  refine n_iadd dL_law_551 ?_
  refine n_sld (law_in4 hi) dL_law_552 ?_
  refine n_aload_n (i := 0) dL_law_553 rfl rfl ?_
  refine n_iload_n (i := 3) dL_law_554 rfl rfl ?_
  refine n_iconst (5 : Int32) dL_law_555 (by decide) ?_
  refine n_iadd dL_law_556 ?_
  refine n_sld (law_in5 hi) dL_law_557 ?_
  refine p_callVi (As := [.int (yb_xs G (nI i + (1 : Int32)).toNatClampNeg), .int (yb_xs G (nI i + (2 : Int32)).toNatClampNeg), .int (yb_xs G (nI i + (3 : Int32)).toNatClampNeg), .int (yb_xs G (nI i + (4 : Int32)).toNatClampNeg), .int (yb_xs G (nI i + (5 : Int32)).toNatClampNeg)]) (t_X12_record h2) cv_L_51 (sh_176 _ _) rfl rfl (Nat.le_of_ble_eq_true rfl) dL_law_558 ⟨Nat.le_of_ble_eq_true rfl, Nat.le_of_ble_eq_true rfl⟩ ⟨rfl, rfl⟩ hz0 (fun _ => ?_)
  refine n_icmp_eq 1723 dL_law_561 (by decide) (fun _ => ?_) (fun c => absurd rfl c)
  exact hnext s2 X ce sl hI (Nat.le_succ _) (Nat.le_succ _) (Nat.le_add_right _ _)
set_option maxHeartbeats 4000000 in
set_option maxRecDepth 20000 in
theorem law_op_8 {Inv : yb_S → Prop} (E : ∀ (a1 a2 : Int32) (s : yb_S), Inv s → ∃ (r : Int32) (s1 s2 : yb_S), (f_X11_alike a1 a2 s = some r ∧ s1 = s) ∧ (f_X12_alike a1 a2 s1 = some r ∧ s2 = s1) ∧ Inv s2) {G : yb_G} {s : yb_S} {X : List (FieldType × Nat)} {ce sl i : Nat} (hs : Inv s) (hi : i + 6 ≤ yb_n G ∧ yb_n G ≤ 3072) (hX : 603 + X.length + 1 ≤ 100000) (hce : ce + 1 ≤ 600000) (hsl : sl + 24 ≤ 7302249) (hnext : ∀ (s' : yb_S) (X' : List (FieldType × Nat)) (ce' sl' : Nat), Inv s' → X'.length ≤ X.length + 1 → ce' ≤ ce + 1 → sl' ≤ sl + 24 → Rn G RL cL_law 4 ret false room_1 lawQ ce' sl' 1723 [some (.ref (yb_b G)), some (.ref (yb_ad G 0)), some (.ref (yb_ad G 176)), some (.int (nI i))] [] (yb_mk s' X')) : Rn G RL cL_law 4 ret false room_1 lawQ ce sl 566 [some (.ref (yb_b G)), some (.ref (yb_ad G 0)), some (.ref (yb_ad G 176)), some (.int (nI i))] [] (yb_mk s X) := by
  have hz0 : ce ≤ room_1.cells ∧ sl ≤ room_1.slots := ⟨show ce ≤ 600000 by omega, show sl ≤ 7302249 by omega⟩
  obtain ⟨r, s1, s2, h1, h2, hI⟩ := E (yb_xs G (nI i + (1 : Int32)).toNatClampNeg) (yb_xs G (nI i + (2 : Int32)).toNatClampNeg) s hs
  obtain ⟨h2, rfl⟩ := h2
  obtain ⟨h1, rfl⟩ := h1
  refine n_aload_n (i := 1) dL_law_566 rfl rfl ?_
  refine n_aload_n (i := 0) dL_law_567 rfl rfl ?_
  refine n_iload_n (i := 3) dL_law_568 rfl rfl ?_
  refine n_iconst (1 : Int32) dL_law_569 (by decide) ?_
  refine n_iadd dL_law_570 ?_
  refine n_sld (law_in1 hi) dL_law_571 ?_
  refine n_aload_n (i := 0) dL_law_572 rfl rfl ?_
  refine n_iload_n (i := 3) dL_law_573 rfl rfl ?_
  refine n_iconst (2 : Int32) dL_law_574 (by decide) ?_
  refine n_iadd dL_law_575 ?_
  refine n_sld (law_in2 hi) dL_law_576 ?_
  refine p_callVi (As := [.int (yb_xs G (nI i + (1 : Int32)).toNatClampNeg), .int (yb_xs G (nI i + (2 : Int32)).toNatClampNeg)]) (t_X11_alike h1) cv_L_52 (sh_0 _ _) rfl rfl (Nat.le_of_ble_eq_true rfl) dL_law_577 ⟨Nat.le_of_ble_eq_true rfl, Nat.le_of_ble_eq_true rfl⟩ ⟨rfl, rfl⟩ hz0 (fun _ => ?_)
  refine n_aload_n (i := 2) dL_law_580 rfl rfl ?_
  refine n_aload_n (i := 0) dL_law_581 rfl rfl ?_
  refine n_iload_n (i := 3) dL_law_582 rfl rfl ?_
  refine n_iconst (1 : Int32) dL_law_583 (by decide) ?_
  refine n_iadd dL_law_584 ?_
  refine n_sld (law_in1 hi) dL_law_585 ?_
  refine n_aload_n (i := 0) dL_law_586 rfl rfl ?_
  refine n_iload_n (i := 3) dL_law_587 rfl rfl ?_
  refine n_iconst (2 : Int32) dL_law_588 (by decide) ?_
  refine n_iadd dL_law_589 ?_
  refine n_sld (law_in2 hi) dL_law_590 ?_
  refine p_callVi (As := [.int (yb_xs G (nI i + (1 : Int32)).toNatClampNeg), .int (yb_xs G (nI i + (2 : Int32)).toNatClampNeg)]) (t_X12_alike h2) cv_L_55 (sh_176 _ _) rfl rfl (Nat.le_of_ble_eq_true rfl) dL_law_591 ⟨Nat.le_of_ble_eq_true rfl, Nat.le_of_ble_eq_true rfl⟩ ⟨rfl, rfl⟩ hz0 (fun _ => ?_)
  refine n_icmp_eq 1723 dL_law_594 (by decide) (fun _ => ?_) (fun c => absurd rfl c)
  exact hnext s2 X ce sl hI (Nat.le_succ _) (Nat.le_succ _) (Nat.le_add_right _ _)
set_option maxHeartbeats 4000000 in
set_option maxRecDepth 20000 in
theorem law_op_9 {Inv : yb_S → Prop} (E : ∀ (a1 : Int32) (s : yb_S), Inv s → ∃ (r : Int32) (s1 s2 : yb_S), (f_X11_match a1 s = some r ∧ s1 = s) ∧ (f_X12_match a1 s1 = some r ∧ s2 = s1) ∧ Inv s2) {G : yb_G} {s : yb_S} {X : List (FieldType × Nat)} {ce sl i : Nat} (hs : Inv s) (hi : i + 6 ≤ yb_n G ∧ yb_n G ≤ 3072) (hX : 603 + X.length + 1 ≤ 100000) (hce : ce + 1 ≤ 600000) (hsl : sl + 24 ≤ 7302249) (hnext : ∀ (s' : yb_S) (X' : List (FieldType × Nat)) (ce' sl' : Nat), Inv s' → X'.length ≤ X.length + 1 → ce' ≤ ce + 1 → sl' ≤ sl + 24 → Rn G RL cL_law 4 ret false room_1 lawQ ce' sl' 1723 [some (.ref (yb_b G)), some (.ref (yb_ad G 0)), some (.ref (yb_ad G 176)), some (.int (nI i))] [] (yb_mk s' X')) : Rn G RL cL_law 4 ret false room_1 lawQ ce sl 599 [some (.ref (yb_b G)), some (.ref (yb_ad G 0)), some (.ref (yb_ad G 176)), some (.int (nI i))] [] (yb_mk s X) := by
  have hz0 : ce ≤ room_1.cells ∧ sl ≤ room_1.slots := ⟨show ce ≤ 600000 by omega, show sl ≤ 7302249 by omega⟩
  obtain ⟨r, s1, s2, h1, h2, hI⟩ := E (yb_xs G (nI i + (1 : Int32)).toNatClampNeg) s hs
  obtain ⟨h2, rfl⟩ := h2
  obtain ⟨h1, rfl⟩ := h1
  refine n_aload_n (i := 1) dL_law_599 rfl rfl ?_
  refine n_aload_n (i := 0) dL_law_600 rfl rfl ?_
  refine n_iload_n (i := 3) dL_law_601 rfl rfl ?_
  refine n_iconst (1 : Int32) dL_law_602 (by decide) ?_
  refine n_iadd dL_law_603 ?_
  refine n_sld (law_in1 hi) dL_law_604 ?_
  refine p_callVi (As := [.int (yb_xs G (nI i + (1 : Int32)).toNatClampNeg)]) (t_X11_match h1) cv_L_56 (sh_0 _ _) rfl rfl (Nat.le_of_ble_eq_true rfl) dL_law_605 ⟨Nat.le_of_ble_eq_true rfl, Nat.le_of_ble_eq_true rfl⟩ ⟨rfl, rfl⟩ hz0 (fun _ => ?_)
  refine n_aload_n (i := 2) dL_law_608 rfl rfl ?_
  refine n_aload_n (i := 0) dL_law_609 rfl rfl ?_
  refine n_iload_n (i := 3) dL_law_610 rfl rfl ?_
  refine n_iconst (1 : Int32) dL_law_611 (by decide) ?_
  refine n_iadd dL_law_612 ?_
  refine n_sld (law_in1 hi) dL_law_613 ?_
  refine p_callVi (As := [.int (yb_xs G (nI i + (1 : Int32)).toNatClampNeg)]) (t_X12_match h2) cv_L_60 (sh_176 _ _) rfl rfl (Nat.le_of_ble_eq_true rfl) dL_law_614 ⟨Nat.le_of_ble_eq_true rfl, Nat.le_of_ble_eq_true rfl⟩ ⟨rfl, rfl⟩ hz0 (fun _ => ?_)
  refine n_icmp_eq 1723 dL_law_617 (by decide) (fun _ => ?_) (fun c => absurd rfl c)
  exact hnext s2 X ce sl hI (Nat.le_succ _) (Nat.le_succ _) (Nat.le_add_right _ _)
set_option maxHeartbeats 4000000 in
set_option maxRecDepth 20000 in
theorem law_op_10 {Inv : yb_S → Prop} (E : ∀ (a1 : Int32) (s : yb_S), Inv s → ∃ (r : Int32) (s1 s2 : yb_S), (f_X11_rivals a1 s = some r ∧ s1 = s) ∧ (f_X12_rivals a1 s1 = some r ∧ s2 = s1) ∧ Inv s2) {G : yb_G} {s : yb_S} {X : List (FieldType × Nat)} {ce sl i : Nat} (hs : Inv s) (hi : i + 6 ≤ yb_n G ∧ yb_n G ≤ 3072) (hX : 603 + X.length + 1 ≤ 100000) (hce : ce + 1 ≤ 600000) (hsl : sl + 24 ≤ 7302249) (hnext : ∀ (s' : yb_S) (X' : List (FieldType × Nat)) (ce' sl' : Nat), Inv s' → X'.length ≤ X.length + 1 → ce' ≤ ce + 1 → sl' ≤ sl + 24 → Rn G RL cL_law 4 ret false room_1 lawQ ce' sl' 1723 [some (.ref (yb_b G)), some (.ref (yb_ad G 0)), some (.ref (yb_ad G 176)), some (.int (nI i))] [] (yb_mk s' X')) : Rn G RL cL_law 4 ret false room_1 lawQ ce sl 622 [some (.ref (yb_b G)), some (.ref (yb_ad G 0)), some (.ref (yb_ad G 176)), some (.int (nI i))] [] (yb_mk s X) := by
  have hz0 : ce ≤ room_1.cells ∧ sl ≤ room_1.slots := ⟨show ce ≤ 600000 by omega, show sl ≤ 7302249 by omega⟩
  obtain ⟨r, s1, s2, h1, h2, hI⟩ := E (yb_xs G (nI i + (1 : Int32)).toNatClampNeg) s hs
  obtain ⟨h2, rfl⟩ := h2
  obtain ⟨h1, rfl⟩ := h1
  refine n_aload_n (i := 1) dL_law_622 rfl rfl ?_
  refine n_aload_n (i := 0) dL_law_623 rfl rfl ?_
  refine n_iload_n (i := 3) dL_law_624 rfl rfl ?_
  refine n_iconst (1 : Int32) dL_law_625 (by decide) ?_
  refine n_iadd dL_law_626 ?_
  refine n_sld (law_in1 hi) dL_law_627 ?_
  refine p_callVi (As := [.int (yb_xs G (nI i + (1 : Int32)).toNatClampNeg)]) (t_X11_rivals h1) cv_L_61 (sh_0 _ _) rfl rfl (Nat.le_of_ble_eq_true rfl) dL_law_628 ⟨Nat.le_of_ble_eq_true rfl, Nat.le_of_ble_eq_true rfl⟩ ⟨rfl, rfl⟩ hz0 (fun _ => ?_)
  refine n_aload_n (i := 2) dL_law_631 rfl rfl ?_
  refine n_aload_n (i := 0) dL_law_632 rfl rfl ?_
  refine n_iload_n (i := 3) dL_law_633 rfl rfl ?_
  refine n_iconst (1 : Int32) dL_law_634 (by decide) ?_
  refine n_iadd dL_law_635 ?_
  refine n_sld (law_in1 hi) dL_law_636 ?_
  refine p_callVi (As := [.int (yb_xs G (nI i + (1 : Int32)).toNatClampNeg)]) (t_X12_rivals h2) cv_L_64 (sh_176 _ _) rfl rfl (Nat.le_of_ble_eq_true rfl) dL_law_637 ⟨Nat.le_of_ble_eq_true rfl, Nat.le_of_ble_eq_true rfl⟩ ⟨rfl, rfl⟩ hz0 (fun _ => ?_)
  refine n_icmp_eq 1723 dL_law_640 (by decide) (fun _ => ?_) (fun c => absurd rfl c)
  exact hnext s2 X ce sl hI (Nat.le_succ _) (Nat.le_succ _) (Nat.le_add_right _ _)
set_option maxHeartbeats 4000000 in
set_option maxRecDepth 20000 in
theorem law_op_11 {Inv : yb_S → Prop} (E : ∀ (a1 a2 : Int32) (s : yb_S), Inv s → ∃ (r : Int32) (s1 s2 : yb_S), f_X11_join a1 a2 s = some (r, s1) ∧ f_X12_join a1 a2 s1 = some (r, s2) ∧ Inv s2) {G : yb_G} {s : yb_S} {X : List (FieldType × Nat)} {ce sl i : Nat} (hs : Inv s) (hi : i + 6 ≤ yb_n G ∧ yb_n G ≤ 3072) (hX : 603 + X.length + 1 ≤ 100000) (hce : ce + 1 ≤ 600000) (hsl : sl + 24 ≤ 7302249) (hnext : ∀ (s' : yb_S) (X' : List (FieldType × Nat)) (ce' sl' : Nat), Inv s' → X'.length ≤ X.length + 1 → ce' ≤ ce + 1 → sl' ≤ sl + 24 → Rn G RL cL_law 4 ret false room_1 lawQ ce' sl' 1723 [some (.ref (yb_b G)), some (.ref (yb_ad G 0)), some (.ref (yb_ad G 176)), some (.int (nI i))] [] (yb_mk s' X')) : Rn G RL cL_law 4 ret false room_1 lawQ ce sl 645 [some (.ref (yb_b G)), some (.ref (yb_ad G 0)), some (.ref (yb_ad G 176)), some (.int (nI i))] [] (yb_mk s X) := by
  have hz0 : ce ≤ room_1.cells ∧ sl ≤ room_1.slots := ⟨show ce ≤ 600000 by omega, show sl ≤ 7302249 by omega⟩
  obtain ⟨r, s1, s2, h1, h2, hI⟩ := E (yb_xs G (nI i + (1 : Int32)).toNatClampNeg) (yb_xs G (nI i + (2 : Int32)).toNatClampNeg) s hs
  refine n_aload_n (i := 1) dL_law_645 rfl rfl ?_
  refine n_aload_n (i := 0) dL_law_646 rfl rfl ?_
  refine n_iload_n (i := 3) dL_law_647 rfl rfl ?_
  refine n_iconst (1 : Int32) dL_law_648 (by decide) ?_
  refine n_iadd dL_law_649 ?_
  refine n_sld (law_in1 hi) dL_law_650 ?_
  refine n_aload_n (i := 0) dL_law_651 rfl rfl ?_
  refine n_iload_n (i := 3) dL_law_652 rfl rfl ?_
  refine n_iconst (2 : Int32) dL_law_653 (by decide) ?_
  refine n_iadd dL_law_654 ?_
  refine n_sld (law_in2 hi) dL_law_655 ?_
  refine p_callVi (As := [.int (yb_xs G (nI i + (1 : Int32)).toNatClampNeg), .int (yb_xs G (nI i + (2 : Int32)).toNatClampNeg)]) (t_X11_join h1) cv_L_65 (sh_0 _ _) rfl rfl (Nat.le_of_ble_eq_true rfl) dL_law_656 ⟨Nat.le_of_ble_eq_true rfl, Nat.le_of_ble_eq_true rfl⟩ ⟨rfl, rfl⟩ hz0 (fun _ => ?_)
  refine n_aload_n (i := 2) dL_law_659 rfl rfl ?_
  refine n_aload_n (i := 0) dL_law_660 rfl rfl ?_
  refine n_iload_n (i := 3) dL_law_661 rfl rfl ?_
  refine n_iconst (1 : Int32) dL_law_662 (by decide) ?_
  refine n_iadd dL_law_663 ?_
  refine n_sld (law_in1 hi) dL_law_664 ?_
  refine n_aload_n (i := 0) dL_law_665 rfl rfl ?_
  refine n_iload_n (i := 3) dL_law_666 rfl rfl ?_
  refine n_iconst (2 : Int32) dL_law_667 (by decide) ?_
  refine n_iadd dL_law_668 ?_
  refine n_sld (law_in2 hi) dL_law_669 ?_
  refine p_callVi (As := [.int (yb_xs G (nI i + (1 : Int32)).toNatClampNeg), .int (yb_xs G (nI i + (2 : Int32)).toNatClampNeg)]) (t_X12_join h2) cv_L_68 (sh_176 _ _) rfl rfl (Nat.le_of_ble_eq_true rfl) dL_law_670 ⟨Nat.le_of_ble_eq_true rfl, Nat.le_of_ble_eq_true rfl⟩ ⟨rfl, rfl⟩ hz0 (fun _ => ?_)
  refine n_icmp_eq 1723 dL_law_673 (by decide) (fun _ => ?_) (fun c => absurd rfl c)
  exact hnext s2 X ce sl hI (Nat.le_succ _) (Nat.le_succ _) (Nat.le_add_right _ _)
set_option maxHeartbeats 4000000 in
set_option maxRecDepth 20000 in
theorem law_op_12 {Inv : yb_S → Prop} (E : ∀ (a1 : Int32) (s : yb_S), Inv s → ∃ (r : Int32) (s1 s2 : yb_S), f_X11_part a1 s = some (r, s1) ∧ f_X12_part a1 s1 = some (r, s2) ∧ Inv s2) {G : yb_G} {s : yb_S} {X : List (FieldType × Nat)} {ce sl i : Nat} (hs : Inv s) (hi : i + 6 ≤ yb_n G ∧ yb_n G ≤ 3072) (hX : 603 + X.length + 1 ≤ 100000) (hce : ce + 1 ≤ 600000) (hsl : sl + 24 ≤ 7302249) (hnext : ∀ (s' : yb_S) (X' : List (FieldType × Nat)) (ce' sl' : Nat), Inv s' → X'.length ≤ X.length + 1 → ce' ≤ ce + 1 → sl' ≤ sl + 24 → Rn G RL cL_law 4 ret false room_1 lawQ ce' sl' 1723 [some (.ref (yb_b G)), some (.ref (yb_ad G 0)), some (.ref (yb_ad G 176)), some (.int (nI i))] [] (yb_mk s' X')) : Rn G RL cL_law 4 ret false room_1 lawQ ce sl 678 [some (.ref (yb_b G)), some (.ref (yb_ad G 0)), some (.ref (yb_ad G 176)), some (.int (nI i))] [] (yb_mk s X) := by
  have hz0 : ce ≤ room_1.cells ∧ sl ≤ room_1.slots := ⟨show ce ≤ 600000 by omega, show sl ≤ 7302249 by omega⟩
  obtain ⟨r, s1, s2, h1, h2, hI⟩ := E (yb_xs G (nI i + (1 : Int32)).toNatClampNeg) s hs
  refine n_aload_n (i := 1) dL_law_678 rfl rfl ?_
  refine n_aload_n (i := 0) dL_law_679 rfl rfl ?_
  refine n_iload_n (i := 3) dL_law_680 rfl rfl ?_
  refine n_iconst (1 : Int32) dL_law_681 (by decide) ?_
  refine n_iadd dL_law_682 ?_
  refine n_sld (law_in1 hi) dL_law_683 ?_
  refine p_callVi (As := [.int (yb_xs G (nI i + (1 : Int32)).toNatClampNeg)]) (t_X11_part h1) cv_L_69 (sh_0 _ _) rfl rfl (Nat.le_of_ble_eq_true rfl) dL_law_684 ⟨Nat.le_of_ble_eq_true rfl, Nat.le_of_ble_eq_true rfl⟩ ⟨rfl, rfl⟩ hz0 (fun _ => ?_)
  refine n_aload_n (i := 2) dL_law_687 rfl rfl ?_
  refine n_aload_n (i := 0) dL_law_688 rfl rfl ?_
  refine n_iload_n (i := 3) dL_law_689 rfl rfl ?_
  refine n_iconst (1 : Int32) dL_law_690 (by decide) ?_
  refine n_iadd dL_law_691 ?_
  refine n_sld (law_in1 hi) dL_law_692 ?_
  refine p_callVi (As := [.int (yb_xs G (nI i + (1 : Int32)).toNatClampNeg)]) (t_X12_part h2) cv_L_72 (sh_176 _ _) rfl rfl (Nat.le_of_ble_eq_true rfl) dL_law_693 ⟨Nat.le_of_ble_eq_true rfl, Nat.le_of_ble_eq_true rfl⟩ ⟨rfl, rfl⟩ hz0 (fun _ => ?_)
  refine n_icmp_eq 1723 dL_law_696 (by decide) (fun _ => ?_) (fun c => absurd rfl c)
  exact hnext s2 X ce sl hI (Nat.le_succ _) (Nat.le_succ _) (Nat.le_add_right _ _)
set_option maxHeartbeats 4000000 in
set_option maxRecDepth 20000 in
theorem law_op_13 {Inv : yb_S → Prop} (E : ∀ (a1 a2 : Int32) (s : yb_S), Inv s → ∃ (r : Int32) (s1 s2 : yb_S), (f_X11_same a1 a2 s = some r ∧ s1 = s) ∧ (f_X12_same a1 a2 s1 = some r ∧ s2 = s1) ∧ Inv s2) {G : yb_G} {s : yb_S} {X : List (FieldType × Nat)} {ce sl i : Nat} (hs : Inv s) (hi : i + 6 ≤ yb_n G ∧ yb_n G ≤ 3072) (hX : 603 + X.length + 1 ≤ 100000) (hce : ce + 1 ≤ 600000) (hsl : sl + 24 ≤ 7302249) (hnext : ∀ (s' : yb_S) (X' : List (FieldType × Nat)) (ce' sl' : Nat), Inv s' → X'.length ≤ X.length + 1 → ce' ≤ ce + 1 → sl' ≤ sl + 24 → Rn G RL cL_law 4 ret false room_1 lawQ ce' sl' 1723 [some (.ref (yb_b G)), some (.ref (yb_ad G 0)), some (.ref (yb_ad G 176)), some (.int (nI i))] [] (yb_mk s' X')) : Rn G RL cL_law 4 ret false room_1 lawQ ce sl 701 [some (.ref (yb_b G)), some (.ref (yb_ad G 0)), some (.ref (yb_ad G 176)), some (.int (nI i))] [] (yb_mk s X) := by
  have hz0 : ce ≤ room_1.cells ∧ sl ≤ room_1.slots := ⟨show ce ≤ 600000 by omega, show sl ≤ 7302249 by omega⟩
  obtain ⟨r, s1, s2, h1, h2, hI⟩ := E (yb_xs G (nI i + (1 : Int32)).toNatClampNeg) (yb_xs G (nI i + (2 : Int32)).toNatClampNeg) s hs
  obtain ⟨h2, rfl⟩ := h2
  obtain ⟨h1, rfl⟩ := h1
  refine n_aload_n (i := 1) dL_law_701 rfl rfl ?_
  refine n_aload_n (i := 0) dL_law_702 rfl rfl ?_
  refine n_iload_n (i := 3) dL_law_703 rfl rfl ?_
  refine n_iconst (1 : Int32) dL_law_704 (by decide) ?_
  refine n_iadd dL_law_705 ?_
  refine n_sld (law_in1 hi) dL_law_706 ?_
  refine n_aload_n (i := 0) dL_law_707 rfl rfl ?_
  refine n_iload_n (i := 3) dL_law_708 rfl rfl ?_
  refine n_iconst (2 : Int32) dL_law_709 (by decide) ?_
  refine n_iadd dL_law_710 ?_
  refine n_sld (law_in2 hi) dL_law_711 ?_
  refine p_callVi (As := [.int (yb_xs G (nI i + (1 : Int32)).toNatClampNeg), .int (yb_xs G (nI i + (2 : Int32)).toNatClampNeg)]) (t_X11_same h1) cv_L_73 (sh_0 _ _) rfl rfl (Nat.le_of_ble_eq_true rfl) dL_law_712 ⟨Nat.le_of_ble_eq_true rfl, Nat.le_of_ble_eq_true rfl⟩ ⟨rfl, rfl⟩ hz0 (fun _ => ?_)
  refine n_aload_n (i := 2) dL_law_715 rfl rfl ?_
  refine n_aload_n (i := 0) dL_law_716 rfl rfl ?_
  refine n_iload_n (i := 3) dL_law_717 rfl rfl ?_
  refine n_iconst (1 : Int32) dL_law_718 (by decide) ?_
  refine n_iadd dL_law_719 ?_
  refine n_sld (law_in1 hi) dL_law_720 ?_
  refine n_aload_n (i := 0) dL_law_721 rfl rfl ?_
  refine n_iload_n (i := 3) dL_law_722 rfl rfl ?_
  refine n_iconst (2 : Int32) dL_law_723 (by decide) ?_
  refine n_iadd dL_law_724 ?_
  refine n_sld (law_in2 hi) dL_law_725 ?_
  refine p_callVi (As := [.int (yb_xs G (nI i + (1 : Int32)).toNatClampNeg), .int (yb_xs G (nI i + (2 : Int32)).toNatClampNeg)]) (t_X12_same h2) cv_L_76 (sh_176 _ _) rfl rfl (Nat.le_of_ble_eq_true rfl) dL_law_726 ⟨Nat.le_of_ble_eq_true rfl, Nat.le_of_ble_eq_true rfl⟩ ⟨rfl, rfl⟩ hz0 (fun _ => ?_)
  refine n_icmp_eq 1723 dL_law_729 (by decide) (fun _ => ?_) (fun c => absurd rfl c)
  exact hnext s2 X ce sl hI (Nat.le_succ _) (Nat.le_succ _) (Nat.le_add_right _ _)
set_option maxHeartbeats 4000000 in
set_option maxRecDepth 20000 in
theorem law_op_14 {Inv : yb_S → Prop} (E : ∀ (a1 a2 a3 : Int32) (s : yb_S), Inv s → ∃ (r : Int32) (s1 s2 : yb_S), f_X11_seek a1 a2 a3 s = some (r, s1) ∧ f_X12_seek a1 a2 a3 s1 = some (r, s2) ∧ Inv s2) {G : yb_G} {s : yb_S} {X : List (FieldType × Nat)} {ce sl i : Nat} (hs : Inv s) (hi : i + 6 ≤ yb_n G ∧ yb_n G ≤ 3072) (hX : 603 + X.length + 1 ≤ 100000) (hce : ce + 1 ≤ 600000) (hsl : sl + 24 ≤ 7302249) (hnext : ∀ (s' : yb_S) (X' : List (FieldType × Nat)) (ce' sl' : Nat), Inv s' → X'.length ≤ X.length + 1 → ce' ≤ ce + 1 → sl' ≤ sl + 24 → Rn G RL cL_law 4 ret false room_1 lawQ ce' sl' 1723 [some (.ref (yb_b G)), some (.ref (yb_ad G 0)), some (.ref (yb_ad G 176)), some (.int (nI i))] [] (yb_mk s' X')) : Rn G RL cL_law 4 ret false room_1 lawQ ce sl 734 [some (.ref (yb_b G)), some (.ref (yb_ad G 0)), some (.ref (yb_ad G 176)), some (.int (nI i))] [] (yb_mk s X) := by
  have hz0 : ce ≤ room_1.cells ∧ sl ≤ room_1.slots := ⟨show ce ≤ 600000 by omega, show sl ≤ 7302249 by omega⟩
  obtain ⟨r, s1, s2, h1, h2, hI⟩ := E (yb_xs G (nI i + (1 : Int32)).toNatClampNeg) (yb_xs G (nI i + (2 : Int32)).toNatClampNeg) (yb_xs G (nI i + (3 : Int32)).toNatClampNeg) s hs
  refine n_aload_n (i := 1) dL_law_734 rfl rfl ?_
  refine n_aload_n (i := 0) dL_law_735 rfl rfl ?_
  refine n_iload_n (i := 3) dL_law_736 rfl rfl ?_
  refine n_iconst (1 : Int32) dL_law_737 (by decide) ?_
  refine n_iadd dL_law_738 ?_
  refine n_sld (law_in1 hi) dL_law_739 ?_
  refine n_aload_n (i := 0) dL_law_740 rfl rfl ?_
  refine n_iload_n (i := 3) dL_law_741 rfl rfl ?_
  refine n_iconst (2 : Int32) dL_law_742 (by decide) ?_
  refine n_iadd dL_law_743 ?_
  refine n_sld (law_in2 hi) dL_law_744 ?_
  refine n_aload_n (i := 0) dL_law_745 rfl rfl ?_
  refine n_iload_n (i := 3) dL_law_746 rfl rfl ?_
  refine n_iconst (3 : Int32) dL_law_747 (by decide) ?_
  refine n_iadd dL_law_748 ?_
  refine n_sld (law_in3 hi) dL_law_749 ?_
  refine p_callVi (As := [.int (yb_xs G (nI i + (1 : Int32)).toNatClampNeg), .int (yb_xs G (nI i + (2 : Int32)).toNatClampNeg), .int (yb_xs G (nI i + (3 : Int32)).toNatClampNeg)]) (t_X11_seek h1) cv_L_77 (sh_0 _ _) rfl rfl (Nat.le_of_ble_eq_true rfl) dL_law_750 ⟨Nat.le_of_ble_eq_true rfl, Nat.le_of_ble_eq_true rfl⟩ ⟨rfl, rfl⟩ hz0 (fun _ => ?_)
  refine n_aload_n (i := 2) dL_law_753 rfl rfl ?_
  refine n_aload_n (i := 0) dL_law_754 rfl rfl ?_
  refine n_iload_n (i := 3) dL_law_755 rfl rfl ?_
  refine n_iconst (1 : Int32) dL_law_756 (by decide) ?_
  refine n_iadd dL_law_757 ?_
  refine n_sld (law_in1 hi) dL_law_758 ?_
  refine n_aload_n (i := 0) dL_law_759 rfl rfl ?_
  refine n_iload_n (i := 3) dL_law_760 rfl rfl ?_
  refine n_iconst (2 : Int32) dL_law_761 (by decide) ?_
  refine n_iadd dL_law_762 ?_
  refine n_sld (law_in2 hi) dL_law_763 ?_
  refine n_aload_n (i := 0) dL_law_764 rfl rfl ?_
  refine n_iload_n (i := 3) dL_law_765 rfl rfl ?_
  refine n_iconst (3 : Int32) dL_law_766 (by decide) ?_
  refine n_iadd dL_law_767 ?_
  refine n_sld (law_in3 hi) dL_law_768 ?_
  refine p_callVi (As := [.int (yb_xs G (nI i + (1 : Int32)).toNatClampNeg), .int (yb_xs G (nI i + (2 : Int32)).toNatClampNeg), .int (yb_xs G (nI i + (3 : Int32)).toNatClampNeg)]) (t_X12_seek h2) cv_L_80 (sh_176 _ _) rfl rfl (Nat.le_of_ble_eq_true rfl) dL_law_769 ⟨Nat.le_of_ble_eq_true rfl, Nat.le_of_ble_eq_true rfl⟩ ⟨rfl, rfl⟩ hz0 (fun _ => ?_)
  refine n_icmp_eq 1723 dL_law_772 (by decide) (fun _ => ?_) (fun c => absurd rfl c)
  exact hnext s2 X ce sl hI (Nat.le_succ _) (Nat.le_succ _) (Nat.le_add_right _ _)
set_option maxHeartbeats 4000000 in
set_option maxRecDepth 20000 in
theorem law_op_15 {Inv : yb_S → Prop} (E : ∀ (a1 a2 : Int32) (s : yb_S), Inv s → ∃ (r : Int32) (s1 s2 : yb_S), (f_X11_finds a1 a2 s = some r ∧ s1 = s) ∧ f_X12_finds a1 a2 s1 = some (r, s2) ∧ Inv s2) {G : yb_G} {s : yb_S} {X : List (FieldType × Nat)} {ce sl i : Nat} (hs : Inv s) (hi : i + 6 ≤ yb_n G ∧ yb_n G ≤ 3072) (hX : 603 + X.length + 1 ≤ 100000) (hce : ce + 1 ≤ 600000) (hsl : sl + 24 ≤ 7302249) (hnext : ∀ (s' : yb_S) (X' : List (FieldType × Nat)) (ce' sl' : Nat), Inv s' → X'.length ≤ X.length + 1 → ce' ≤ ce + 1 → sl' ≤ sl + 24 → Rn G RL cL_law 4 ret false room_1 lawQ ce' sl' 1723 [some (.ref (yb_b G)), some (.ref (yb_ad G 0)), some (.ref (yb_ad G 176)), some (.int (nI i))] [] (yb_mk s' X')) : Rn G RL cL_law 4 ret false room_1 lawQ ce sl 777 [some (.ref (yb_b G)), some (.ref (yb_ad G 0)), some (.ref (yb_ad G 176)), some (.int (nI i))] [] (yb_mk s X) := by
  have hz0 : ce ≤ room_1.cells ∧ sl ≤ room_1.slots := ⟨show ce ≤ 600000 by omega, show sl ≤ 7302249 by omega⟩
  obtain ⟨r, s1, s2, h1, h2, hI⟩ := E (yb_xs G (nI i + (1 : Int32)).toNatClampNeg) (yb_xs G (nI i + (2 : Int32)).toNatClampNeg) s hs
  obtain ⟨h1, rfl⟩ := h1
  refine n_aload_n (i := 1) dL_law_777 rfl rfl ?_
  refine n_aload_n (i := 0) dL_law_778 rfl rfl ?_
  refine n_iload_n (i := 3) dL_law_779 rfl rfl ?_
  refine n_iconst (1 : Int32) dL_law_780 (by decide) ?_
  refine n_iadd dL_law_781 ?_
  refine n_sld (law_in1 hi) dL_law_782 ?_
  refine n_aload_n (i := 0) dL_law_783 rfl rfl ?_
  refine n_iload_n (i := 3) dL_law_784 rfl rfl ?_
  refine n_iconst (2 : Int32) dL_law_785 (by decide) ?_
  refine n_iadd dL_law_786 ?_
  refine n_sld (law_in2 hi) dL_law_787 ?_
  refine p_callVi (As := [.int (yb_xs G (nI i + (1 : Int32)).toNatClampNeg), .int (yb_xs G (nI i + (2 : Int32)).toNatClampNeg)]) (t_X11_finds h1) cv_L_81 (sh_0 _ _) rfl rfl (Nat.le_of_ble_eq_true rfl) dL_law_788 ⟨Nat.le_of_ble_eq_true rfl, Nat.le_of_ble_eq_true rfl⟩ ⟨rfl, rfl⟩ hz0 (fun _ => ?_)
  refine n_aload_n (i := 2) dL_law_791 rfl rfl ?_
  refine n_aload_n (i := 0) dL_law_792 rfl rfl ?_
  refine n_iload_n (i := 3) dL_law_793 rfl rfl ?_
  refine n_iconst (1 : Int32) dL_law_794 (by decide) ?_
  refine n_iadd dL_law_795 ?_
  refine n_sld (law_in1 hi) dL_law_796 ?_
  refine n_aload_n (i := 0) dL_law_797 rfl rfl ?_
  refine n_iload_n (i := 3) dL_law_798 rfl rfl ?_
  refine n_iconst (2 : Int32) dL_law_799 (by decide) ?_
  refine n_iadd dL_law_800 ?_
  refine n_sld (law_in2 hi) dL_law_801 ?_
  refine p_callVi (As := [.int (yb_xs G (nI i + (1 : Int32)).toNatClampNeg), .int (yb_xs G (nI i + (2 : Int32)).toNatClampNeg)]) (t_X12_finds h2) cv_L_84 (sh_176 _ _) rfl rfl (Nat.le_of_ble_eq_true rfl) dL_law_802 ⟨Nat.le_of_ble_eq_true rfl, Nat.le_of_ble_eq_true rfl⟩ ⟨rfl, rfl⟩ hz0 (fun _ => ?_)
  refine n_icmp_eq 1723 dL_law_805 (by decide) (fun _ => ?_) (fun c => absurd rfl c)
  exact hnext s2 X ce sl hI (Nat.le_succ _) (Nat.le_succ _) (Nat.le_add_right _ _)
set_option maxHeartbeats 4000000 in
set_option maxRecDepth 20000 in
theorem law_op_16 {Inv : yb_S → Prop} (E : ∀ (a1 : Int32) (s : yb_S), Inv s → ∃ (r : Int32) (s1 s2 : yb_S), (f_X11_kin a1 s = some r ∧ s1 = s) ∧ f_X12_kin a1 s1 = some (r, s2) ∧ Inv s2) {G : yb_G} {s : yb_S} {X : List (FieldType × Nat)} {ce sl i : Nat} (hs : Inv s) (hi : i + 6 ≤ yb_n G ∧ yb_n G ≤ 3072) (hX : 603 + X.length + 1 ≤ 100000) (hce : ce + 1 ≤ 600000) (hsl : sl + 24 ≤ 7302249) (hnext : ∀ (s' : yb_S) (X' : List (FieldType × Nat)) (ce' sl' : Nat), Inv s' → X'.length ≤ X.length + 1 → ce' ≤ ce + 1 → sl' ≤ sl + 24 → Rn G RL cL_law 4 ret false room_1 lawQ ce' sl' 1723 [some (.ref (yb_b G)), some (.ref (yb_ad G 0)), some (.ref (yb_ad G 176)), some (.int (nI i))] [] (yb_mk s' X')) : Rn G RL cL_law 4 ret false room_1 lawQ ce sl 810 [some (.ref (yb_b G)), some (.ref (yb_ad G 0)), some (.ref (yb_ad G 176)), some (.int (nI i))] [] (yb_mk s X) := by
  have hz0 : ce ≤ room_1.cells ∧ sl ≤ room_1.slots := ⟨show ce ≤ 600000 by omega, show sl ≤ 7302249 by omega⟩
  obtain ⟨r, s1, s2, h1, h2, hI⟩ := E (yb_xs G (nI i + (1 : Int32)).toNatClampNeg) s hs
  obtain ⟨h1, rfl⟩ := h1
  refine n_aload_n (i := 1) dL_law_810 rfl rfl ?_
  refine n_aload_n (i := 0) dL_law_811 rfl rfl ?_
  refine n_iload_n (i := 3) dL_law_812 rfl rfl ?_
  refine n_iconst (1 : Int32) dL_law_813 (by decide) ?_
  refine n_iadd dL_law_814 ?_
  refine n_sld (law_in1 hi) dL_law_815 ?_
  refine p_callVi (As := [.int (yb_xs G (nI i + (1 : Int32)).toNatClampNeg)]) (t_X11_kin h1) cv_L_85 (sh_0 _ _) rfl rfl (Nat.le_of_ble_eq_true rfl) dL_law_816 ⟨Nat.le_of_ble_eq_true rfl, Nat.le_of_ble_eq_true rfl⟩ ⟨rfl, rfl⟩ hz0 (fun _ => ?_)
  refine n_aload_n (i := 2) dL_law_819 rfl rfl ?_
  refine n_aload_n (i := 0) dL_law_820 rfl rfl ?_
  refine n_iload_n (i := 3) dL_law_821 rfl rfl ?_
  refine n_iconst (1 : Int32) dL_law_822 (by decide) ?_
  refine n_iadd dL_law_823 ?_
  refine n_sld (law_in1 hi) dL_law_824 ?_
  refine p_callVi (As := [.int (yb_xs G (nI i + (1 : Int32)).toNatClampNeg)]) (t_X12_kin h2) cv_L_88 (sh_176 _ _) rfl rfl (Nat.le_of_ble_eq_true rfl) dL_law_825 ⟨Nat.le_of_ble_eq_true rfl, Nat.le_of_ble_eq_true rfl⟩ ⟨rfl, rfl⟩ hz0 (fun _ => ?_)
  refine n_icmp_eq 1723 dL_law_828 (by decide) (fun _ => ?_) (fun c => absurd rfl c)
  exact hnext s2 X ce sl hI (Nat.le_succ _) (Nat.le_succ _) (Nat.le_add_right _ _)
set_option maxHeartbeats 4000000 in
set_option maxRecDepth 20000 in
theorem law_op_17 {Inv : yb_S → Prop} (E : ∀ (a1 : Int32) (s : yb_S), Inv s → ∃ (r : Int32) (s1 s2 : yb_S), (f_X11_mutual a1 s = some r ∧ s1 = s) ∧ f_X12_mutual a1 s1 = some (r, s2) ∧ Inv s2) {G : yb_G} {s : yb_S} {X : List (FieldType × Nat)} {ce sl i : Nat} (hs : Inv s) (hi : i + 6 ≤ yb_n G ∧ yb_n G ≤ 3072) (hX : 603 + X.length + 1 ≤ 100000) (hce : ce + 1 ≤ 600000) (hsl : sl + 24 ≤ 7302249) (hnext : ∀ (s' : yb_S) (X' : List (FieldType × Nat)) (ce' sl' : Nat), Inv s' → X'.length ≤ X.length + 1 → ce' ≤ ce + 1 → sl' ≤ sl + 24 → Rn G RL cL_law 4 ret false room_1 lawQ ce' sl' 1723 [some (.ref (yb_b G)), some (.ref (yb_ad G 0)), some (.ref (yb_ad G 176)), some (.int (nI i))] [] (yb_mk s' X')) : Rn G RL cL_law 4 ret false room_1 lawQ ce sl 833 [some (.ref (yb_b G)), some (.ref (yb_ad G 0)), some (.ref (yb_ad G 176)), some (.int (nI i))] [] (yb_mk s X) := by
  have hz0 : ce ≤ room_1.cells ∧ sl ≤ room_1.slots := ⟨show ce ≤ 600000 by omega, show sl ≤ 7302249 by omega⟩
  obtain ⟨r, s1, s2, h1, h2, hI⟩ := E (yb_xs G (nI i + (1 : Int32)).toNatClampNeg) s hs
  obtain ⟨h1, rfl⟩ := h1
  refine n_aload_n (i := 1) dL_law_833 rfl rfl ?_
  refine n_aload_n (i := 0) dL_law_834 rfl rfl ?_
  refine n_iload_n (i := 3) dL_law_835 rfl rfl ?_
  refine n_iconst (1 : Int32) dL_law_836 (by decide) ?_
  refine n_iadd dL_law_837 ?_
  refine n_sld (law_in1 hi) dL_law_838 ?_
  refine p_callVi (As := [.int (yb_xs G (nI i + (1 : Int32)).toNatClampNeg)]) (t_X11_mutual h1) cv_L_89 (sh_0 _ _) rfl rfl (Nat.le_of_ble_eq_true rfl) dL_law_839 ⟨Nat.le_of_ble_eq_true rfl, Nat.le_of_ble_eq_true rfl⟩ ⟨rfl, rfl⟩ hz0 (fun _ => ?_)
  refine n_aload_n (i := 2) dL_law_842 rfl rfl ?_
  refine n_aload_n (i := 0) dL_law_843 rfl rfl ?_
  refine n_iload_n (i := 3) dL_law_844 rfl rfl ?_
  refine n_iconst (1 : Int32) dL_law_845 (by decide) ?_
  refine n_iadd dL_law_846 ?_
  refine n_sld (law_in1 hi) dL_law_847 ?_
  refine p_callVi (As := [.int (yb_xs G (nI i + (1 : Int32)).toNatClampNeg)]) (t_X12_mutual h2) cv_L_92 (sh_176 _ _) rfl rfl (Nat.le_of_ble_eq_true rfl) dL_law_848 ⟨Nat.le_of_ble_eq_true rfl, Nat.le_of_ble_eq_true rfl⟩ ⟨rfl, rfl⟩ hz0 (fun _ => ?_)
  refine n_icmp_eq 1723 dL_law_851 (by decide) (fun _ => ?_) (fun c => absurd rfl c)
  exact hnext s2 X ce sl hI (Nat.le_succ _) (Nat.le_succ _) (Nat.le_add_right _ _)
set_option maxHeartbeats 4000000 in
set_option maxRecDepth 20000 in
theorem law_op_18 {Inv : yb_S → Prop} (E : ∀ (a1 a2 a3 a4 a5 : Int32) (s : yb_S), Inv s → ∃ (r : Int32) (s1 s2 : yb_S), f_X11_feed a1 a2 a3 a4 a5 s = some (r, s1) ∧ f_X12_feed a1 a2 a3 a4 a5 s1 = some (r, s2) ∧ Inv s2) {G : yb_G} {s : yb_S} {X : List (FieldType × Nat)} {ce sl i : Nat} (hs : Inv s) (hi : i + 6 ≤ yb_n G ∧ yb_n G ≤ 3072) (hX : 603 + X.length + 1 ≤ 100000) (hce : ce + 1 ≤ 600000) (hsl : sl + 24 ≤ 7302249) (hnext : ∀ (s' : yb_S) (X' : List (FieldType × Nat)) (ce' sl' : Nat), Inv s' → X'.length ≤ X.length + 1 → ce' ≤ ce + 1 → sl' ≤ sl + 24 → Rn G RL cL_law 4 ret false room_1 lawQ ce' sl' 1723 [some (.ref (yb_b G)), some (.ref (yb_ad G 0)), some (.ref (yb_ad G 176)), some (.int (nI i))] [] (yb_mk s' X')) : Rn G RL cL_law 4 ret false room_1 lawQ ce sl 856 [some (.ref (yb_b G)), some (.ref (yb_ad G 0)), some (.ref (yb_ad G 176)), some (.int (nI i))] [] (yb_mk s X) := by
  have hz0 : ce ≤ room_1.cells ∧ sl ≤ room_1.slots := ⟨show ce ≤ 600000 by omega, show sl ≤ 7302249 by omega⟩
  obtain ⟨r, s1, s2, h1, h2, hI⟩ := E (yb_xs G (nI i + (1 : Int32)).toNatClampNeg) (yb_xs G (nI i + (2 : Int32)).toNatClampNeg) (yb_xs G (nI i + (3 : Int32)).toNatClampNeg) (yb_xs G (nI i + (4 : Int32)).toNatClampNeg) (yb_xs G (nI i + (5 : Int32)).toNatClampNeg) s hs
  refine n_aload_n (i := 1) dL_law_856 rfl rfl ?_
  refine n_aload_n (i := 0) dL_law_857 rfl rfl ?_
  refine n_iload_n (i := 3) dL_law_858 rfl rfl ?_
  refine n_iconst (1 : Int32) dL_law_859 (by decide) ?_
  refine n_iadd dL_law_860 ?_
  refine n_sld (law_in1 hi) dL_law_861 ?_
  refine n_aload_n (i := 0) dL_law_862 rfl rfl ?_
  refine n_iload_n (i := 3) dL_law_863 rfl rfl ?_
  refine n_iconst (2 : Int32) dL_law_864 (by decide) ?_
  refine n_iadd dL_law_865 ?_
  refine n_sld (law_in2 hi) dL_law_866 ?_
  refine n_aload_n (i := 0) dL_law_867 rfl rfl ?_
  refine n_iload_n (i := 3) dL_law_868 rfl rfl ?_
  refine n_iconst (3 : Int32) dL_law_869 (by decide) ?_
  refine n_iadd dL_law_870 ?_
  refine n_sld (law_in3 hi) dL_law_871 ?_
  refine n_aload_n (i := 0) dL_law_872 rfl rfl ?_
  refine n_iload_n (i := 3) dL_law_873 rfl rfl ?_
  refine n_iconst (4 : Int32) dL_law_874 (by decide) ?_
  refine n_iadd dL_law_875 ?_
  refine n_sld (law_in4 hi) dL_law_876 ?_
  refine n_aload_n (i := 0) dL_law_877 rfl rfl ?_
  refine n_iload_n (i := 3) dL_law_878 rfl rfl ?_
  refine n_iconst (5 : Int32) dL_law_879 (by decide) ?_
  refine n_iadd dL_law_880 ?_
  refine n_sld (law_in5 hi) dL_law_881 ?_
  refine p_callVi (As := [.int (yb_xs G (nI i + (1 : Int32)).toNatClampNeg), .int (yb_xs G (nI i + (2 : Int32)).toNatClampNeg), .int (yb_xs G (nI i + (3 : Int32)).toNatClampNeg), .int (yb_xs G (nI i + (4 : Int32)).toNatClampNeg), .int (yb_xs G (nI i + (5 : Int32)).toNatClampNeg)]) (t_X11_feed h1) cv_L_93 (sh_0 _ _) rfl rfl (Nat.le_of_ble_eq_true rfl) dL_law_882 ⟨Nat.le_of_ble_eq_true rfl, Nat.le_of_ble_eq_true rfl⟩ ⟨rfl, rfl⟩ hz0 (fun _ => ?_)
  refine n_aload_n (i := 2) dL_law_885 rfl rfl ?_
  refine n_aload_n (i := 0) dL_law_886 rfl rfl ?_
  refine n_iload_n (i := 3) dL_law_887 rfl rfl ?_
  refine n_iconst (1 : Int32) dL_law_888 (by decide) ?_
  refine n_iadd dL_law_889 ?_
  refine n_sld (law_in1 hi) dL_law_890 ?_
  refine n_aload_n (i := 0) dL_law_891 rfl rfl ?_
  refine n_iload_n (i := 3) dL_law_892 rfl rfl ?_
  refine n_iconst (2 : Int32) dL_law_893 (by decide) ?_
  refine n_iadd dL_law_894 ?_
  refine n_sld (law_in2 hi) dL_law_895 ?_
  refine n_aload_n (i := 0) dL_law_896 rfl rfl ?_
  refine n_iload_n (i := 3) dL_law_897 rfl rfl ?_
  refine n_iconst (3 : Int32) dL_law_898 (by decide) ?_
  refine n_iadd dL_law_899 ?_
  refine n_sld (law_in3 hi) dL_law_900 ?_
  refine n_aload_n (i := 0) dL_law_901 rfl rfl ?_
  refine n_iload_n (i := 3) dL_law_902 rfl rfl ?_
  refine n_iconst (4 : Int32) dL_law_903 (by decide) ?_
  refine n_iadd dL_law_904 ?_
  refine n_sld (law_in4 hi) dL_law_905 ?_
  refine n_aload_n (i := 0) dL_law_906 rfl rfl ?_
  refine n_iload_n (i := 3) dL_law_907 rfl rfl ?_
  refine n_iconst (5 : Int32) dL_law_908 (by decide) ?_
  refine n_iadd dL_law_909 ?_
  refine n_sld (law_in5 hi) dL_law_910 ?_
  refine p_callVi (As := [.int (yb_xs G (nI i + (1 : Int32)).toNatClampNeg), .int (yb_xs G (nI i + (2 : Int32)).toNatClampNeg), .int (yb_xs G (nI i + (3 : Int32)).toNatClampNeg), .int (yb_xs G (nI i + (4 : Int32)).toNatClampNeg), .int (yb_xs G (nI i + (5 : Int32)).toNatClampNeg)]) (t_X12_feed h2) cv_L_96 (sh_176 _ _) rfl rfl (Nat.le_of_ble_eq_true rfl) dL_law_911 ⟨Nat.le_of_ble_eq_true rfl, Nat.le_of_ble_eq_true rfl⟩ ⟨rfl, rfl⟩ hz0 (fun _ => ?_)
  refine n_icmp_eq 1723 dL_law_914 (by decide) (fun _ => ?_) (fun c => absurd rfl c)
  exact hnext s2 X ce sl hI (Nat.le_succ _) (Nat.le_succ _) (Nat.le_add_right _ _)
set_option maxHeartbeats 4000000 in
set_option maxRecDepth 20000 in
theorem law_op_19 {Inv : yb_S → Prop} (E : ∀ (a1 : Int32) (s : yb_S), Inv s → ∃ (r : Int32) (s1 s2 : yb_S), f_X11_end a1 s = some (r, s1) ∧ f_X12_end a1 s1 = some (r, s2) ∧ Inv s2) {G : yb_G} {s : yb_S} {X : List (FieldType × Nat)} {ce sl i : Nat} (hs : Inv s) (hi : i + 6 ≤ yb_n G ∧ yb_n G ≤ 3072) (hX : 603 + X.length + 1 ≤ 100000) (hce : ce + 1 ≤ 600000) (hsl : sl + 24 ≤ 7302249) (hnext : ∀ (s' : yb_S) (X' : List (FieldType × Nat)) (ce' sl' : Nat), Inv s' → X'.length ≤ X.length + 1 → ce' ≤ ce + 1 → sl' ≤ sl + 24 → Rn G RL cL_law 4 ret false room_1 lawQ ce' sl' 1723 [some (.ref (yb_b G)), some (.ref (yb_ad G 0)), some (.ref (yb_ad G 176)), some (.int (nI i))] [] (yb_mk s' X')) : Rn G RL cL_law 4 ret false room_1 lawQ ce sl 919 [some (.ref (yb_b G)), some (.ref (yb_ad G 0)), some (.ref (yb_ad G 176)), some (.int (nI i))] [] (yb_mk s X) := by
  have hz0 : ce ≤ room_1.cells ∧ sl ≤ room_1.slots := ⟨show ce ≤ 600000 by omega, show sl ≤ 7302249 by omega⟩
  obtain ⟨r, s1, s2, h1, h2, hI⟩ := E (yb_xs G (nI i + (1 : Int32)).toNatClampNeg) s hs
  refine n_aload_n (i := 1) dL_law_919 rfl rfl ?_
  refine n_aload_n (i := 0) dL_law_920 rfl rfl ?_
  refine n_iload_n (i := 3) dL_law_921 rfl rfl ?_
  refine n_iconst (1 : Int32) dL_law_922 (by decide) ?_
  refine n_iadd dL_law_923 ?_
  refine n_sld (law_in1 hi) dL_law_924 ?_
  refine p_callVi (As := [.int (yb_xs G (nI i + (1 : Int32)).toNatClampNeg)]) (t_X11_end h1) cv_L_97 (sh_0 _ _) rfl rfl (Nat.le_of_ble_eq_true rfl) dL_law_925 ⟨Nat.le_of_ble_eq_true rfl, Nat.le_of_ble_eq_true rfl⟩ ⟨rfl, rfl⟩ hz0 (fun _ => ?_)
  refine n_aload_n (i := 2) dL_law_928 rfl rfl ?_
  refine n_aload_n (i := 0) dL_law_929 rfl rfl ?_
  refine n_iload_n (i := 3) dL_law_930 rfl rfl ?_
  refine n_iconst (1 : Int32) dL_law_931 (by decide) ?_
  refine n_iadd dL_law_932 ?_
  refine n_sld (law_in1 hi) dL_law_933 ?_
  refine p_callVi (As := [.int (yb_xs G (nI i + (1 : Int32)).toNatClampNeg)]) (t_X12_end h2) cv_L_100 (sh_176 _ _) rfl rfl (Nat.le_of_ble_eq_true rfl) dL_law_934 ⟨Nat.le_of_ble_eq_true rfl, Nat.le_of_ble_eq_true rfl⟩ ⟨rfl, rfl⟩ hz0 (fun _ => ?_)
  refine n_icmp_eq 1723 dL_law_937 (by decide) (fun _ => ?_) (fun c => absurd rfl c)
  exact hnext s2 X ce sl hI (Nat.le_succ _) (Nat.le_succ _) (Nat.le_add_right _ _)
set_option maxHeartbeats 4000000 in
set_option maxRecDepth 20000 in
theorem law_op_20 {Inv : yb_S → Prop} (E : ∀ (s : yb_S), Inv s → ∃ (r : Int32) (s1 s2 : yb_S), f_X11_fault s = some (r, s1) ∧ f_X12_fault s1 = some (r, s2) ∧ Inv s2) {G : yb_G} {s : yb_S} {X : List (FieldType × Nat)} {ce sl i : Nat} (hs : Inv s) (hi : i + 6 ≤ yb_n G ∧ yb_n G ≤ 3072) (hX : 603 + X.length + 1 ≤ 100000) (hce : ce + 1 ≤ 600000) (hsl : sl + 24 ≤ 7302249) (hnext : ∀ (s' : yb_S) (X' : List (FieldType × Nat)) (ce' sl' : Nat), Inv s' → X'.length ≤ X.length + 1 → ce' ≤ ce + 1 → sl' ≤ sl + 24 → Rn G RL cL_law 4 ret false room_1 lawQ ce' sl' 1723 [some (.ref (yb_b G)), some (.ref (yb_ad G 0)), some (.ref (yb_ad G 176)), some (.int (nI i))] [] (yb_mk s' X')) : Rn G RL cL_law 4 ret false room_1 lawQ ce sl 942 [some (.ref (yb_b G)), some (.ref (yb_ad G 0)), some (.ref (yb_ad G 176)), some (.int (nI i))] [] (yb_mk s X) := by
  have hz0 : ce ≤ room_1.cells ∧ sl ≤ room_1.slots := ⟨show ce ≤ 600000 by omega, show sl ≤ 7302249 by omega⟩
  obtain ⟨r, s1, s2, h1, h2, hI⟩ := E s hs
  refine n_aload_n (i := 1) dL_law_942 rfl rfl ?_
  refine p_callVi (As := []) (t_X11_fault h1) cv_L_101 (sh_0 _ _) rfl rfl (Nat.le_of_ble_eq_true rfl) dL_law_943 ⟨Nat.le_of_ble_eq_true rfl, Nat.le_of_ble_eq_true rfl⟩ ⟨rfl, rfl⟩ hz0 (fun _ => ?_)
  refine n_aload_n (i := 2) dL_law_946 rfl rfl ?_
  refine p_callVi (As := []) (t_X12_fault h2) cv_L_105 (sh_176 _ _) rfl rfl (Nat.le_of_ble_eq_true rfl) dL_law_947 ⟨Nat.le_of_ble_eq_true rfl, Nat.le_of_ble_eq_true rfl⟩ ⟨rfl, rfl⟩ hz0 (fun _ => ?_)
  refine n_icmp_eq 1723 dL_law_950 (by decide) (fun _ => ?_) (fun c => absurd rfl c)
  exact hnext s2 X ce sl hI (Nat.le_succ _) (Nat.le_succ _) (Nat.le_add_right _ _)
set_option maxHeartbeats 4000000 in
set_option maxRecDepth 20000 in
theorem law_op_21 {Inv : yb_S → Prop} (E : ∀ (s : yb_S), Inv s → ∃ (r : Int32) (s1 s2 : yb_S), f_X11_sheet s = some (r, s1) ∧ f_X12_sheet s1 = some (r, s2) ∧ Inv s2) {G : yb_G} {s : yb_S} {X : List (FieldType × Nat)} {ce sl i : Nat} (hs : Inv s) (hi : i + 6 ≤ yb_n G ∧ yb_n G ≤ 3072) (hX : 603 + X.length + 1 ≤ 100000) (hce : ce + 1 ≤ 600000) (hsl : sl + 24 ≤ 7302249) (hnext : ∀ (s' : yb_S) (X' : List (FieldType × Nat)) (ce' sl' : Nat), Inv s' → X'.length ≤ X.length + 1 → ce' ≤ ce + 1 → sl' ≤ sl + 24 → Rn G RL cL_law 4 ret false room_1 lawQ ce' sl' 1723 [some (.ref (yb_b G)), some (.ref (yb_ad G 0)), some (.ref (yb_ad G 176)), some (.int (nI i))] [] (yb_mk s' X')) : Rn G RL cL_law 4 ret false room_1 lawQ ce sl 955 [some (.ref (yb_b G)), some (.ref (yb_ad G 0)), some (.ref (yb_ad G 176)), some (.int (nI i))] [] (yb_mk s X) := by
  have hz0 : ce ≤ room_1.cells ∧ sl ≤ room_1.slots := ⟨show ce ≤ 600000 by omega, show sl ≤ 7302249 by omega⟩
  obtain ⟨r, s1, s2, h1, h2, hI⟩ := E s hs
  refine n_aload_n (i := 1) dL_law_955 rfl rfl ?_
  refine p_callVi (As := []) (t_X11_sheet h1) cv_L_106 (sh_0 _ _) rfl rfl (Nat.le_of_ble_eq_true rfl) dL_law_956 ⟨Nat.le_of_ble_eq_true rfl, Nat.le_of_ble_eq_true rfl⟩ ⟨rfl, rfl⟩ hz0 (fun _ => ?_)
  refine n_aload_n (i := 2) dL_law_959 rfl rfl ?_
  refine p_callVi (As := []) (t_X12_sheet h2) cv_L_109 (sh_176 _ _) rfl rfl (Nat.le_of_ble_eq_true rfl) dL_law_960 ⟨Nat.le_of_ble_eq_true rfl, Nat.le_of_ble_eq_true rfl⟩ ⟨rfl, rfl⟩ hz0 (fun _ => ?_)
  refine n_icmp_eq 1723 dL_law_963 (by decide) (fun _ => ?_) (fun c => absurd rfl c)
  exact hnext s2 X ce sl hI (Nat.le_succ _) (Nat.le_succ _) (Nat.le_add_right _ _)
set_option maxHeartbeats 4000000 in
set_option maxRecDepth 20000 in
theorem law_op_22 {Inv : yb_S → Prop} (E : ∀ (a1 : Int32) (s : yb_S), Inv s → ∃ (r : Int32) (s1 s2 : yb_S), f_X11_strike a1 s = some (r, s1) ∧ f_X12_strike a1 s1 = some (r, s2) ∧ Inv s2) {G : yb_G} {s : yb_S} {X : List (FieldType × Nat)} {ce sl i : Nat} (hs : Inv s) (hi : i + 6 ≤ yb_n G ∧ yb_n G ≤ 3072) (hX : 603 + X.length + 1 ≤ 100000) (hce : ce + 1 ≤ 600000) (hsl : sl + 24 ≤ 7302249) (hnext : ∀ (s' : yb_S) (X' : List (FieldType × Nat)) (ce' sl' : Nat), Inv s' → X'.length ≤ X.length + 1 → ce' ≤ ce + 1 → sl' ≤ sl + 24 → Rn G RL cL_law 4 ret false room_1 lawQ ce' sl' 1723 [some (.ref (yb_b G)), some (.ref (yb_ad G 0)), some (.ref (yb_ad G 176)), some (.int (nI i))] [] (yb_mk s' X')) : Rn G RL cL_law 4 ret false room_1 lawQ ce sl 968 [some (.ref (yb_b G)), some (.ref (yb_ad G 0)), some (.ref (yb_ad G 176)), some (.int (nI i))] [] (yb_mk s X) := by
  have hz0 : ce ≤ room_1.cells ∧ sl ≤ room_1.slots := ⟨show ce ≤ 600000 by omega, show sl ≤ 7302249 by omega⟩
  obtain ⟨r, s1, s2, h1, h2, hI⟩ := E (yb_xs G (nI i + (1 : Int32)).toNatClampNeg) s hs
  refine n_aload_n (i := 1) dL_law_968 rfl rfl ?_
  refine n_aload_n (i := 0) dL_law_969 rfl rfl ?_
  refine n_iload_n (i := 3) dL_law_970 rfl rfl ?_
  refine n_iconst (1 : Int32) dL_law_971 (by decide) ?_
  refine n_iadd dL_law_972 ?_
  refine n_sld (law_in1 hi) dL_law_973 ?_
  refine p_callVi (As := [.int (yb_xs G (nI i + (1 : Int32)).toNatClampNeg)]) (t_X11_strike h1) cv_L_110 (sh_0 _ _) rfl rfl (Nat.le_of_ble_eq_true rfl) dL_law_974 ⟨Nat.le_of_ble_eq_true rfl, Nat.le_of_ble_eq_true rfl⟩ ⟨rfl, rfl⟩ hz0 (fun _ => ?_)
  refine n_aload_n (i := 2) dL_law_977 rfl rfl ?_
  refine n_aload_n (i := 0) dL_law_978 rfl rfl ?_
  refine n_iload_n (i := 3) dL_law_979 rfl rfl ?_
  refine n_iconst (1 : Int32) dL_law_980 (by decide) ?_
  refine n_iadd dL_law_981 ?_
  refine n_sld (law_in1 hi) dL_law_982 ?_
  refine p_callVi (As := [.int (yb_xs G (nI i + (1 : Int32)).toNatClampNeg)]) (t_X12_strike h2) cv_L_113 (sh_176 _ _) rfl rfl (Nat.le_of_ble_eq_true rfl) dL_law_983 ⟨Nat.le_of_ble_eq_true rfl, Nat.le_of_ble_eq_true rfl⟩ ⟨rfl, rfl⟩ hz0 (fun _ => ?_)
  refine n_icmp_eq 1723 dL_law_986 (by decide) (fun _ => ?_) (fun c => absurd rfl c)
  exact hnext s2 X ce sl hI (Nat.le_succ _) (Nat.le_succ _) (Nat.le_add_right _ _)
set_option maxHeartbeats 4000000 in
set_option maxRecDepth 20000 in
theorem law_op_23 {Inv : yb_S → Prop} (E : ∀ (a1 a2 : Int32) (s : yb_S), Inv s → ∃ (r : Int32) (s1 s2 : yb_S), (f_X11_why a1 a2 s = some r ∧ s1 = s) ∧ (f_X12_why a1 a2 s1 = some r ∧ s2 = s1) ∧ Inv s2) {G : yb_G} {s : yb_S} {X : List (FieldType × Nat)} {ce sl i : Nat} (hs : Inv s) (hi : i + 6 ≤ yb_n G ∧ yb_n G ≤ 3072) (hX : 603 + X.length + 1 ≤ 100000) (hce : ce + 1 ≤ 600000) (hsl : sl + 24 ≤ 7302249) (hnext : ∀ (s' : yb_S) (X' : List (FieldType × Nat)) (ce' sl' : Nat), Inv s' → X'.length ≤ X.length + 1 → ce' ≤ ce + 1 → sl' ≤ sl + 24 → Rn G RL cL_law 4 ret false room_1 lawQ ce' sl' 1723 [some (.ref (yb_b G)), some (.ref (yb_ad G 0)), some (.ref (yb_ad G 176)), some (.int (nI i))] [] (yb_mk s' X')) : Rn G RL cL_law 4 ret false room_1 lawQ ce sl 991 [some (.ref (yb_b G)), some (.ref (yb_ad G 0)), some (.ref (yb_ad G 176)), some (.int (nI i))] [] (yb_mk s X) := by
  have hz0 : ce ≤ room_1.cells ∧ sl ≤ room_1.slots := ⟨show ce ≤ 600000 by omega, show sl ≤ 7302249 by omega⟩
  obtain ⟨r, s1, s2, h1, h2, hI⟩ := E (yb_xs G (nI i + (1 : Int32)).toNatClampNeg) (yb_xs G (nI i + (2 : Int32)).toNatClampNeg) s hs
  obtain ⟨h2, rfl⟩ := h2
  obtain ⟨h1, rfl⟩ := h1
  refine n_aload_n (i := 1) dL_law_991 rfl rfl ?_
  refine n_aload_n (i := 0) dL_law_992 rfl rfl ?_
  refine n_iload_n (i := 3) dL_law_993 rfl rfl ?_
  refine n_iconst (1 : Int32) dL_law_994 (by decide) ?_
  refine n_iadd dL_law_995 ?_
  refine n_sld (law_in1 hi) dL_law_996 ?_
  refine n_aload_n (i := 0) dL_law_997 rfl rfl ?_
  refine n_iload_n (i := 3) dL_law_998 rfl rfl ?_
  refine n_iconst (2 : Int32) dL_law_999 (by decide) ?_
  refine n_iadd dL_law_1000 ?_
  refine n_sld (law_in2 hi) dL_law_1001 ?_
  refine p_callVi (As := [.int (yb_xs G (nI i + (1 : Int32)).toNatClampNeg), .int (yb_xs G (nI i + (2 : Int32)).toNatClampNeg)]) (t_X11_why h1) cv_L_114 (sh_0 _ _) rfl rfl (Nat.le_of_ble_eq_true rfl) dL_law_1002 ⟨Nat.le_of_ble_eq_true rfl, Nat.le_of_ble_eq_true rfl⟩ ⟨rfl, rfl⟩ hz0 (fun _ => ?_)
  refine n_aload_n (i := 2) dL_law_1005 rfl rfl ?_
  refine n_aload_n (i := 0) dL_law_1006 rfl rfl ?_
  refine n_iload_n (i := 3) dL_law_1007 rfl rfl ?_
  refine n_iconst (1 : Int32) dL_law_1008 (by decide) ?_
  refine n_iadd dL_law_1009 ?_
  refine n_sld (law_in1 hi) dL_law_1010 ?_
  refine n_aload_n (i := 0) dL_law_1011 rfl rfl ?_
  refine n_iload_n (i := 3) dL_law_1012 rfl rfl ?_
  refine n_iconst (2 : Int32) dL_law_1013 (by decide) ?_
  refine n_iadd dL_law_1014 ?_
  refine n_sld (law_in2 hi) dL_law_1015 ?_
  refine p_callVi (As := [.int (yb_xs G (nI i + (1 : Int32)).toNatClampNeg), .int (yb_xs G (nI i + (2 : Int32)).toNatClampNeg)]) (t_X12_why h2) cv_L_117 (sh_176 _ _) rfl rfl (Nat.le_of_ble_eq_true rfl) dL_law_1016 ⟨Nat.le_of_ble_eq_true rfl, Nat.le_of_ble_eq_true rfl⟩ ⟨rfl, rfl⟩ hz0 (fun _ => ?_)
  refine n_icmp_eq 1723 dL_law_1019 (by decide) (fun _ => ?_) (fun c => absurd rfl c)
  exact hnext s2 X ce sl hI (Nat.le_succ _) (Nat.le_succ _) (Nat.le_add_right _ _)
set_option maxHeartbeats 4000000 in
set_option maxRecDepth 20000 in
theorem law_op_24 {Inv : yb_S → Prop} (E : ∀ (a1 a2 : Int32) (s : yb_S), Inv s → ∃ (r : Int32) (s1 s2 : yb_S), f_X11_rank a1 a2 s = some (r, s1) ∧ f_X12_rank a1 a2 s1 = some (r, s2) ∧ Inv s2) {G : yb_G} {s : yb_S} {X : List (FieldType × Nat)} {ce sl i : Nat} (hs : Inv s) (hi : i + 6 ≤ yb_n G ∧ yb_n G ≤ 3072) (hX : 603 + X.length + 1 ≤ 100000) (hce : ce + 1 ≤ 600000) (hsl : sl + 24 ≤ 7302249) (hnext : ∀ (s' : yb_S) (X' : List (FieldType × Nat)) (ce' sl' : Nat), Inv s' → X'.length ≤ X.length + 1 → ce' ≤ ce + 1 → sl' ≤ sl + 24 → Rn G RL cL_law 4 ret false room_1 lawQ ce' sl' 1723 [some (.ref (yb_b G)), some (.ref (yb_ad G 0)), some (.ref (yb_ad G 176)), some (.int (nI i))] [] (yb_mk s' X')) : Rn G RL cL_law 4 ret false room_1 lawQ ce sl 1024 [some (.ref (yb_b G)), some (.ref (yb_ad G 0)), some (.ref (yb_ad G 176)), some (.int (nI i))] [] (yb_mk s X) := by
  have hz0 : ce ≤ room_1.cells ∧ sl ≤ room_1.slots := ⟨show ce ≤ 600000 by omega, show sl ≤ 7302249 by omega⟩
  obtain ⟨r, s1, s2, h1, h2, hI⟩ := E (yb_xs G (nI i + (1 : Int32)).toNatClampNeg) (yb_xs G (nI i + (2 : Int32)).toNatClampNeg) s hs
  refine n_aload_n (i := 1) dL_law_1024 rfl rfl ?_
  refine n_aload_n (i := 0) dL_law_1025 rfl rfl ?_
  refine n_iload_n (i := 3) dL_law_1026 rfl rfl ?_
  refine n_iconst (1 : Int32) dL_law_1027 (by decide) ?_
  refine n_iadd dL_law_1028 ?_
  refine n_sld (law_in1 hi) dL_law_1029 ?_
  refine n_aload_n (i := 0) dL_law_1030 rfl rfl ?_
  refine n_iload_n (i := 3) dL_law_1031 rfl rfl ?_
  refine n_iconst (2 : Int32) dL_law_1032 (by decide) ?_
  refine n_iadd dL_law_1033 ?_
  refine n_sld (law_in2 hi) dL_law_1034 ?_
  refine p_callVi (As := [.int (yb_xs G (nI i + (1 : Int32)).toNatClampNeg), .int (yb_xs G (nI i + (2 : Int32)).toNatClampNeg)]) (t_X11_rank h1) cv_L_118 (sh_0 _ _) rfl rfl (Nat.le_of_ble_eq_true rfl) dL_law_1035 ⟨Nat.le_of_ble_eq_true rfl, Nat.le_of_ble_eq_true rfl⟩ ⟨rfl, rfl⟩ hz0 (fun _ => ?_)
  refine n_aload_n (i := 2) dL_law_1038 rfl rfl ?_
  refine n_aload_n (i := 0) dL_law_1039 rfl rfl ?_
  refine n_iload_n (i := 3) dL_law_1040 rfl rfl ?_
  refine n_iconst (1 : Int32) dL_law_1041 (by decide) ?_
  refine n_iadd dL_law_1042 ?_
  refine n_sld (law_in1 hi) dL_law_1043 ?_
  refine n_aload_n (i := 0) dL_law_1044 rfl rfl ?_
  refine n_iload_n (i := 3) dL_law_1045 rfl rfl ?_
  refine n_iconst (2 : Int32) dL_law_1046 (by decide) ?_
  refine n_iadd dL_law_1047 ?_
  refine n_sld (law_in2 hi) dL_law_1048 ?_
  refine p_callVi (As := [.int (yb_xs G (nI i + (1 : Int32)).toNatClampNeg), .int (yb_xs G (nI i + (2 : Int32)).toNatClampNeg)]) (t_X12_rank h2) cv_L_121 (sh_176 _ _) rfl rfl (Nat.le_of_ble_eq_true rfl) dL_law_1049 ⟨Nat.le_of_ble_eq_true rfl, Nat.le_of_ble_eq_true rfl⟩ ⟨rfl, rfl⟩ hz0 (fun _ => ?_)
  refine n_icmp_eq 1723 dL_law_1052 (by decide) (fun _ => ?_) (fun c => absurd rfl c)
  exact hnext s2 X ce sl hI (Nat.le_succ _) (Nat.le_succ _) (Nat.le_add_right _ _)
set_option maxHeartbeats 4000000 in
set_option maxRecDepth 20000 in
theorem law_op_25 {Inv : yb_S → Prop} (E : ∀ (a1 : Int32) (s : yb_S), Inv s → ∃ (r : Int32) (s1 s2 : yb_S), f_X11_lack a1 s = some (r, s1) ∧ f_X12_lack a1 s1 = some (r, s2) ∧ Inv s2) {G : yb_G} {s : yb_S} {X : List (FieldType × Nat)} {ce sl i : Nat} (hs : Inv s) (hi : i + 6 ≤ yb_n G ∧ yb_n G ≤ 3072) (hX : 603 + X.length + 1 ≤ 100000) (hce : ce + 1 ≤ 600000) (hsl : sl + 24 ≤ 7302249) (hnext : ∀ (s' : yb_S) (X' : List (FieldType × Nat)) (ce' sl' : Nat), Inv s' → X'.length ≤ X.length + 1 → ce' ≤ ce + 1 → sl' ≤ sl + 24 → Rn G RL cL_law 4 ret false room_1 lawQ ce' sl' 1723 [some (.ref (yb_b G)), some (.ref (yb_ad G 0)), some (.ref (yb_ad G 176)), some (.int (nI i))] [] (yb_mk s' X')) : Rn G RL cL_law 4 ret false room_1 lawQ ce sl 1057 [some (.ref (yb_b G)), some (.ref (yb_ad G 0)), some (.ref (yb_ad G 176)), some (.int (nI i))] [] (yb_mk s X) := by
  have hz0 : ce ≤ room_1.cells ∧ sl ≤ room_1.slots := ⟨show ce ≤ 600000 by omega, show sl ≤ 7302249 by omega⟩
  obtain ⟨r, s1, s2, h1, h2, hI⟩ := E (yb_xs G (nI i + (1 : Int32)).toNatClampNeg) s hs
  refine n_aload_n (i := 1) dL_law_1057 rfl rfl ?_
  refine n_aload_n (i := 0) dL_law_1058 rfl rfl ?_
  refine n_iload_n (i := 3) dL_law_1059 rfl rfl ?_
  refine n_iconst (1 : Int32) dL_law_1060 (by decide) ?_
  refine n_iadd dL_law_1061 ?_
  refine n_sld (law_in1 hi) dL_law_1062 ?_
  refine p_callVi (As := [.int (yb_xs G (nI i + (1 : Int32)).toNatClampNeg)]) (t_X11_lack h1) cv_L_122 (sh_0 _ _) rfl rfl (Nat.le_of_ble_eq_true rfl) dL_law_1063 ⟨Nat.le_of_ble_eq_true rfl, Nat.le_of_ble_eq_true rfl⟩ ⟨rfl, rfl⟩ hz0 (fun _ => ?_)
  refine n_aload_n (i := 2) dL_law_1066 rfl rfl ?_
  refine n_aload_n (i := 0) dL_law_1067 rfl rfl ?_
  refine n_iload_n (i := 3) dL_law_1068 rfl rfl ?_
  refine n_iconst (1 : Int32) dL_law_1069 (by decide) ?_
  refine n_iadd dL_law_1070 ?_
  refine n_sld (law_in1 hi) dL_law_1071 ?_
  refine p_callVi (As := [.int (yb_xs G (nI i + (1 : Int32)).toNatClampNeg)]) (t_X12_lack h2) cv_L_125 (sh_176 _ _) rfl rfl (Nat.le_of_ble_eq_true rfl) dL_law_1072 ⟨Nat.le_of_ble_eq_true rfl, Nat.le_of_ble_eq_true rfl⟩ ⟨rfl, rfl⟩ hz0 (fun _ => ?_)
  refine n_icmp_eq 1723 dL_law_1075 (by decide) (fun _ => ?_) (fun c => absurd rfl c)
  exact hnext s2 X ce sl hI (Nat.le_succ _) (Nat.le_succ _) (Nat.le_add_right _ _)
set_option maxHeartbeats 4000000 in
set_option maxRecDepth 20000 in
theorem law_op_26 {Inv : yb_S → Prop} (E : ∀ (a1 a2 : Int32) (s : yb_S), Inv s → ∃ (r : Int32) (s1 s2 : yb_S), f_X11_bar a1 a2 s = some (r, s1) ∧ f_X12_bar a1 a2 s1 = some (r, s2) ∧ Inv s2) {G : yb_G} {s : yb_S} {X : List (FieldType × Nat)} {ce sl i : Nat} (hs : Inv s) (hi : i + 6 ≤ yb_n G ∧ yb_n G ≤ 3072) (hX : 603 + X.length + 1 ≤ 100000) (hce : ce + 1 ≤ 600000) (hsl : sl + 24 ≤ 7302249) (hnext : ∀ (s' : yb_S) (X' : List (FieldType × Nat)) (ce' sl' : Nat), Inv s' → X'.length ≤ X.length + 1 → ce' ≤ ce + 1 → sl' ≤ sl + 24 → Rn G RL cL_law 4 ret false room_1 lawQ ce' sl' 1723 [some (.ref (yb_b G)), some (.ref (yb_ad G 0)), some (.ref (yb_ad G 176)), some (.int (nI i))] [] (yb_mk s' X')) : Rn G RL cL_law 4 ret false room_1 lawQ ce sl 1080 [some (.ref (yb_b G)), some (.ref (yb_ad G 0)), some (.ref (yb_ad G 176)), some (.int (nI i))] [] (yb_mk s X) := by
  have hz0 : ce ≤ room_1.cells ∧ sl ≤ room_1.slots := ⟨show ce ≤ 600000 by omega, show sl ≤ 7302249 by omega⟩
  obtain ⟨r, s1, s2, h1, h2, hI⟩ := E (yb_xs G (nI i + (1 : Int32)).toNatClampNeg) (yb_xs G (nI i + (2 : Int32)).toNatClampNeg) s hs
  refine n_aload_n (i := 1) dL_law_1080 rfl rfl ?_
  refine n_aload_n (i := 0) dL_law_1081 rfl rfl ?_
  refine n_iload_n (i := 3) dL_law_1082 rfl rfl ?_
  refine n_iconst (1 : Int32) dL_law_1083 (by decide) ?_
  refine n_iadd dL_law_1084 ?_
  refine n_sld (law_in1 hi) dL_law_1085 ?_
  refine n_aload_n (i := 0) dL_law_1086 rfl rfl ?_
  refine n_iload_n (i := 3) dL_law_1087 rfl rfl ?_
  refine n_iconst (2 : Int32) dL_law_1088 (by decide) ?_
  refine n_iadd dL_law_1089 ?_
  refine n_sld (law_in2 hi) dL_law_1090 ?_
  refine p_callVi (As := [.int (yb_xs G (nI i + (1 : Int32)).toNatClampNeg), .int (yb_xs G (nI i + (2 : Int32)).toNatClampNeg)]) (t_X11_bar h1) cv_L_126 (sh_0 _ _) rfl rfl (Nat.le_of_ble_eq_true rfl) dL_law_1091 ⟨Nat.le_of_ble_eq_true rfl, Nat.le_of_ble_eq_true rfl⟩ ⟨rfl, rfl⟩ hz0 (fun _ => ?_)
  refine n_aload_n (i := 2) dL_law_1094 rfl rfl ?_
  refine n_aload_n (i := 0) dL_law_1095 rfl rfl ?_
  refine n_iload_n (i := 3) dL_law_1096 rfl rfl ?_
  refine n_iconst (1 : Int32) dL_law_1097 (by decide) ?_
  refine n_iadd dL_law_1098 ?_
  refine n_sld (law_in1 hi) dL_law_1099 ?_
  refine n_aload_n (i := 0) dL_law_1100 rfl rfl ?_
  refine n_iload_n (i := 3) dL_law_1101 rfl rfl ?_
  refine n_iconst (2 : Int32) dL_law_1102 (by decide) ?_
  refine n_iadd dL_law_1103 ?_
  refine n_sld (law_in2 hi) dL_law_1104 ?_
  refine p_callVi (As := [.int (yb_xs G (nI i + (1 : Int32)).toNatClampNeg), .int (yb_xs G (nI i + (2 : Int32)).toNatClampNeg)]) (t_X12_bar h2) cv_L_129 (sh_176 _ _) rfl rfl (Nat.le_of_ble_eq_true rfl) dL_law_1105 ⟨Nat.le_of_ble_eq_true rfl, Nat.le_of_ble_eq_true rfl⟩ ⟨rfl, rfl⟩ hz0 (fun _ => ?_)
  refine n_icmp_eq 1723 dL_law_1108 (by decide) (fun _ => ?_) (fun c => absurd rfl c)
  exact hnext s2 X ce sl hI (Nat.le_succ _) (Nat.le_succ _) (Nat.le_add_right _ _)
set_option maxHeartbeats 4000000 in
set_option maxRecDepth 20000 in
theorem law_op_27 {Inv : yb_S → Prop} (E : ∀ (s : yb_S), Inv s → ∃ (r : Int32) (s1 s2 : yb_S), f_X11_place s = some (r, s1) ∧ f_X12_place s1 = some (r, s2) ∧ Inv s2) {G : yb_G} {s : yb_S} {X : List (FieldType × Nat)} {ce sl i : Nat} (hs : Inv s) (hi : i + 6 ≤ yb_n G ∧ yb_n G ≤ 3072) (hX : 603 + X.length + 1 ≤ 100000) (hce : ce + 1 ≤ 600000) (hsl : sl + 24 ≤ 7302249) (hnext : ∀ (s' : yb_S) (X' : List (FieldType × Nat)) (ce' sl' : Nat), Inv s' → X'.length ≤ X.length + 1 → ce' ≤ ce + 1 → sl' ≤ sl + 24 → Rn G RL cL_law 4 ret false room_1 lawQ ce' sl' 1723 [some (.ref (yb_b G)), some (.ref (yb_ad G 0)), some (.ref (yb_ad G 176)), some (.int (nI i))] [] (yb_mk s' X')) : Rn G RL cL_law 4 ret false room_1 lawQ ce sl 1113 [some (.ref (yb_b G)), some (.ref (yb_ad G 0)), some (.ref (yb_ad G 176)), some (.int (nI i))] [] (yb_mk s X) := by
  have hz0 : ce ≤ room_1.cells ∧ sl ≤ room_1.slots := ⟨show ce ≤ 600000 by omega, show sl ≤ 7302249 by omega⟩
  obtain ⟨r, s1, s2, h1, h2, hI⟩ := E s hs
  refine n_aload_n (i := 1) dL_law_1113 rfl rfl ?_
  refine p_callVi (As := []) (t_X11_place h1) cv_L_130 (sh_0 _ _) rfl rfl (Nat.le_of_ble_eq_true rfl) dL_law_1114 ⟨Nat.le_of_ble_eq_true rfl, Nat.le_of_ble_eq_true rfl⟩ ⟨rfl, rfl⟩ hz0 (fun _ => ?_)
  refine n_aload_n (i := 2) dL_law_1117 rfl rfl ?_
  refine p_callVi (As := []) (t_X12_place h2) cv_L_133 (sh_176 _ _) rfl rfl (Nat.le_of_ble_eq_true rfl) dL_law_1118 ⟨Nat.le_of_ble_eq_true rfl, Nat.le_of_ble_eq_true rfl⟩ ⟨rfl, rfl⟩ hz0 (fun _ => ?_)
  refine n_icmp_eq 1723 dL_law_1121 (by decide) (fun _ => ?_) (fun c => absurd rfl c)
  exact hnext s2 X ce sl hI (Nat.le_succ _) (Nat.le_succ _) (Nat.le_add_right _ _)
set_option maxHeartbeats 4000000 in
set_option maxRecDepth 20000 in
theorem law_op_28 {Inv : yb_S → Prop} (E : ∀ (a1 a2 : Int32) (s : yb_S), Inv s → ∃ (r : Int32) (s1 s2 : yb_S), (f_X11_passed a1 a2 s = some r ∧ s1 = s) ∧ (f_X12_passed a1 a2 s1 = some r ∧ s2 = s1) ∧ Inv s2) {G : yb_G} {s : yb_S} {X : List (FieldType × Nat)} {ce sl i : Nat} (hs : Inv s) (hi : i + 6 ≤ yb_n G ∧ yb_n G ≤ 3072) (hX : 603 + X.length + 1 ≤ 100000) (hce : ce + 1 ≤ 600000) (hsl : sl + 24 ≤ 7302249) (hnext : ∀ (s' : yb_S) (X' : List (FieldType × Nat)) (ce' sl' : Nat), Inv s' → X'.length ≤ X.length + 1 → ce' ≤ ce + 1 → sl' ≤ sl + 24 → Rn G RL cL_law 4 ret false room_1 lawQ ce' sl' 1723 [some (.ref (yb_b G)), some (.ref (yb_ad G 0)), some (.ref (yb_ad G 176)), some (.int (nI i))] [] (yb_mk s' X')) : Rn G RL cL_law 4 ret false room_1 lawQ ce sl 1126 [some (.ref (yb_b G)), some (.ref (yb_ad G 0)), some (.ref (yb_ad G 176)), some (.int (nI i))] [] (yb_mk s X) := by
  have hz0 : ce ≤ room_1.cells ∧ sl ≤ room_1.slots := ⟨show ce ≤ 600000 by omega, show sl ≤ 7302249 by omega⟩
  obtain ⟨r, s1, s2, h1, h2, hI⟩ := E (yb_xs G (nI i + (1 : Int32)).toNatClampNeg) (yb_xs G (nI i + (2 : Int32)).toNatClampNeg) s hs
  obtain ⟨h2, rfl⟩ := h2
  obtain ⟨h1, rfl⟩ := h1
  refine n_aload_n (i := 1) dL_law_1126 rfl rfl ?_
  refine n_aload_n (i := 0) dL_law_1127 rfl rfl ?_
  refine n_iload_n (i := 3) dL_law_1128 rfl rfl ?_
  refine n_iconst (1 : Int32) dL_law_1129 (by decide) ?_
  refine n_iadd dL_law_1130 ?_
  refine n_sld (law_in1 hi) dL_law_1131 ?_
  refine n_aload_n (i := 0) dL_law_1132 rfl rfl ?_
  refine n_iload_n (i := 3) dL_law_1133 rfl rfl ?_
  refine n_iconst (2 : Int32) dL_law_1134 (by decide) ?_
  refine n_iadd dL_law_1135 ?_
  refine n_sld (law_in2 hi) dL_law_1136 ?_
  refine p_callVi (As := [.int (yb_xs G (nI i + (1 : Int32)).toNatClampNeg), .int (yb_xs G (nI i + (2 : Int32)).toNatClampNeg)]) (t_X11_passed h1) cv_L_134 (sh_0 _ _) rfl rfl (Nat.le_of_ble_eq_true rfl) dL_law_1137 ⟨Nat.le_of_ble_eq_true rfl, Nat.le_of_ble_eq_true rfl⟩ ⟨rfl, rfl⟩ hz0 (fun _ => ?_)
  refine n_aload_n (i := 2) dL_law_1140 rfl rfl ?_
  refine n_aload_n (i := 0) dL_law_1141 rfl rfl ?_
  refine n_iload_n (i := 3) dL_law_1142 rfl rfl ?_
  refine n_iconst (1 : Int32) dL_law_1143 (by decide) ?_
  refine n_iadd dL_law_1144 ?_
  refine n_sld (law_in1 hi) dL_law_1145 ?_
  refine n_aload_n (i := 0) dL_law_1146 rfl rfl ?_
  refine n_iload_n (i := 3) dL_law_1147 rfl rfl ?_
  refine n_iconst (2 : Int32) dL_law_1148 (by decide) ?_
  refine n_iadd dL_law_1149 ?_
  refine n_sld (law_in2 hi) dL_law_1150 ?_
  refine p_callVi (As := [.int (yb_xs G (nI i + (1 : Int32)).toNatClampNeg), .int (yb_xs G (nI i + (2 : Int32)).toNatClampNeg)]) (t_X12_passed h2) cv_L_137 (sh_176 _ _) rfl rfl (Nat.le_of_ble_eq_true rfl) dL_law_1151 ⟨Nat.le_of_ble_eq_true rfl, Nat.le_of_ble_eq_true rfl⟩ ⟨rfl, rfl⟩ hz0 (fun _ => ?_)
  refine n_icmp_eq 1723 dL_law_1154 (by decide) (fun _ => ?_) (fun c => absurd rfl c)
  exact hnext s2 X ce sl hI (Nat.le_succ _) (Nat.le_succ _) (Nat.le_add_right _ _)
set_option maxHeartbeats 4000000 in
set_option maxRecDepth 20000 in
theorem law_op_29 {Inv : yb_S → Prop} (E : ∀ (a1 a2 : Int32) (s : yb_S), Inv s → ∃ (r : Int32) (s1 s2 : yb_S), f_X11_move a1 a2 s = some (r, s1) ∧ f_X12_move a1 a2 s1 = some (r, s2) ∧ Inv s2) {G : yb_G} {s : yb_S} {X : List (FieldType × Nat)} {ce sl i : Nat} (hs : Inv s) (hi : i + 6 ≤ yb_n G ∧ yb_n G ≤ 3072) (hX : 603 + X.length + 1 ≤ 100000) (hce : ce + 1 ≤ 600000) (hsl : sl + 24 ≤ 7302249) (hnext : ∀ (s' : yb_S) (X' : List (FieldType × Nat)) (ce' sl' : Nat), Inv s' → X'.length ≤ X.length + 1 → ce' ≤ ce + 1 → sl' ≤ sl + 24 → Rn G RL cL_law 4 ret false room_1 lawQ ce' sl' 1723 [some (.ref (yb_b G)), some (.ref (yb_ad G 0)), some (.ref (yb_ad G 176)), some (.int (nI i))] [] (yb_mk s' X')) : Rn G RL cL_law 4 ret false room_1 lawQ ce sl 1159 [some (.ref (yb_b G)), some (.ref (yb_ad G 0)), some (.ref (yb_ad G 176)), some (.int (nI i))] [] (yb_mk s X) := by
  have hz0 : ce ≤ room_1.cells ∧ sl ≤ room_1.slots := ⟨show ce ≤ 600000 by omega, show sl ≤ 7302249 by omega⟩
  obtain ⟨r, s1, s2, h1, h2, hI⟩ := E (yb_xs G (nI i + (1 : Int32)).toNatClampNeg) (yb_xs G (nI i + (2 : Int32)).toNatClampNeg) s hs
  refine n_aload_n (i := 1) dL_law_1159 rfl rfl ?_
  refine n_aload_n (i := 0) dL_law_1160 rfl rfl ?_
  refine n_iload_n (i := 3) dL_law_1161 rfl rfl ?_
  refine n_iconst (1 : Int32) dL_law_1162 (by decide) ?_
  refine n_iadd dL_law_1163 ?_
  refine n_sld (law_in1 hi) dL_law_1164 ?_
  refine n_aload_n (i := 0) dL_law_1165 rfl rfl ?_
  refine n_iload_n (i := 3) dL_law_1166 rfl rfl ?_
  refine n_iconst (2 : Int32) dL_law_1167 (by decide) ?_
  refine n_iadd dL_law_1168 ?_
  refine n_sld (law_in2 hi) dL_law_1169 ?_
  refine p_callVi (As := [.int (yb_xs G (nI i + (1 : Int32)).toNatClampNeg), .int (yb_xs G (nI i + (2 : Int32)).toNatClampNeg)]) (t_X11_move h1) cv_L_138 (sh_0 _ _) rfl rfl (Nat.le_of_ble_eq_true rfl) dL_law_1170 ⟨Nat.le_of_ble_eq_true rfl, Nat.le_of_ble_eq_true rfl⟩ ⟨rfl, rfl⟩ hz0 (fun _ => ?_)
  refine n_aload_n (i := 2) dL_law_1173 rfl rfl ?_
  refine n_aload_n (i := 0) dL_law_1174 rfl rfl ?_
  refine n_iload_n (i := 3) dL_law_1175 rfl rfl ?_
  refine n_iconst (1 : Int32) dL_law_1176 (by decide) ?_
  refine n_iadd dL_law_1177 ?_
  refine n_sld (law_in1 hi) dL_law_1178 ?_
  refine n_aload_n (i := 0) dL_law_1179 rfl rfl ?_
  refine n_iload_n (i := 3) dL_law_1180 rfl rfl ?_
  refine n_iconst (2 : Int32) dL_law_1181 (by decide) ?_
  refine n_iadd dL_law_1182 ?_
  refine n_sld (law_in2 hi) dL_law_1183 ?_
  refine p_callVi (As := [.int (yb_xs G (nI i + (1 : Int32)).toNatClampNeg), .int (yb_xs G (nI i + (2 : Int32)).toNatClampNeg)]) (t_X12_move h2) cv_L_141 (sh_176 _ _) rfl rfl (Nat.le_of_ble_eq_true rfl) dL_law_1184 ⟨Nat.le_of_ble_eq_true rfl, Nat.le_of_ble_eq_true rfl⟩ ⟨rfl, rfl⟩ hz0 (fun _ => ?_)
  refine n_icmp_eq 1723 dL_law_1187 (by decide) (fun _ => ?_) (fun c => absurd rfl c)
  exact hnext s2 X ce sl hI (Nat.le_succ _) (Nat.le_succ _) (Nat.le_add_right _ _)
set_option maxHeartbeats 4000000 in
set_option maxRecDepth 20000 in
theorem law_op_30 {Inv : yb_S → Prop} (E : ∀ (a1 : Int32) (s : yb_S), Inv s → ∃ (r : Int32) (s1 s2 : yb_S), f_X11_leave a1 s = some (r, s1) ∧ f_X12_leave a1 s1 = some (r, s2) ∧ Inv s2) {G : yb_G} {s : yb_S} {X : List (FieldType × Nat)} {ce sl i : Nat} (hs : Inv s) (hi : i + 6 ≤ yb_n G ∧ yb_n G ≤ 3072) (hX : 603 + X.length + 1 ≤ 100000) (hce : ce + 1 ≤ 600000) (hsl : sl + 24 ≤ 7302249) (hnext : ∀ (s' : yb_S) (X' : List (FieldType × Nat)) (ce' sl' : Nat), Inv s' → X'.length ≤ X.length + 1 → ce' ≤ ce + 1 → sl' ≤ sl + 24 → Rn G RL cL_law 4 ret false room_1 lawQ ce' sl' 1723 [some (.ref (yb_b G)), some (.ref (yb_ad G 0)), some (.ref (yb_ad G 176)), some (.int (nI i))] [] (yb_mk s' X')) : Rn G RL cL_law 4 ret false room_1 lawQ ce sl 1192 [some (.ref (yb_b G)), some (.ref (yb_ad G 0)), some (.ref (yb_ad G 176)), some (.int (nI i))] [] (yb_mk s X) := by
  have hz0 : ce ≤ room_1.cells ∧ sl ≤ room_1.slots := ⟨show ce ≤ 600000 by omega, show sl ≤ 7302249 by omega⟩
  obtain ⟨r, s1, s2, h1, h2, hI⟩ := E (yb_xs G (nI i + (1 : Int32)).toNatClampNeg) s hs
  refine n_aload_n (i := 1) dL_law_1192 rfl rfl ?_
  refine n_aload_n (i := 0) dL_law_1193 rfl rfl ?_
  refine n_iload_n (i := 3) dL_law_1194 rfl rfl ?_
  refine n_iconst (1 : Int32) dL_law_1195 (by decide) ?_
  refine n_iadd dL_law_1196 ?_
  refine n_sld (law_in1 hi) dL_law_1197 ?_
  refine p_callVi (As := [.int (yb_xs G (nI i + (1 : Int32)).toNatClampNeg)]) (t_X11_leave h1) cv_L_142 (sh_0 _ _) rfl rfl (Nat.le_of_ble_eq_true rfl) dL_law_1198 ⟨Nat.le_of_ble_eq_true rfl, Nat.le_of_ble_eq_true rfl⟩ ⟨rfl, rfl⟩ hz0 (fun _ => ?_)
  refine n_aload_n (i := 2) dL_law_1201 rfl rfl ?_
  refine n_aload_n (i := 0) dL_law_1202 rfl rfl ?_
  refine n_iload_n (i := 3) dL_law_1203 rfl rfl ?_
  refine n_iconst (1 : Int32) dL_law_1204 (by decide) ?_
  refine n_iadd dL_law_1205 ?_
  refine n_sld (law_in1 hi) dL_law_1206 ?_
  refine p_callVi (As := [.int (yb_xs G (nI i + (1 : Int32)).toNatClampNeg)]) (t_X12_leave h2) cv_L_145 (sh_176 _ _) rfl rfl (Nat.le_of_ble_eq_true rfl) dL_law_1207 ⟨Nat.le_of_ble_eq_true rfl, Nat.le_of_ble_eq_true rfl⟩ ⟨rfl, rfl⟩ hz0 (fun _ => ?_)
  refine n_icmp_eq 1723 dL_law_1210 (by decide) (fun _ => ?_) (fun c => absurd rfl c)
  exact hnext s2 X ce sl hI (Nat.le_succ _) (Nat.le_succ _) (Nat.le_add_right _ _)
set_option maxHeartbeats 4000000 in
set_option maxRecDepth 20000 in
theorem law_op_31 {Inv : yb_S → Prop} (E : ∀ (a1 : Int32) (s : yb_S), Inv s → ∃ (r : Int32) (s1 s2 : yb_S), f_X11_go a1 s = some (r, s1) ∧ f_X12_go a1 s1 = some (r, s2) ∧ Inv s2) {G : yb_G} {s : yb_S} {X : List (FieldType × Nat)} {ce sl i : Nat} (hs : Inv s) (hi : i + 6 ≤ yb_n G ∧ yb_n G ≤ 3072) (hX : 603 + X.length + 1 ≤ 100000) (hce : ce + 1 ≤ 600000) (hsl : sl + 24 ≤ 7302249) (hnext : ∀ (s' : yb_S) (X' : List (FieldType × Nat)) (ce' sl' : Nat), Inv s' → X'.length ≤ X.length + 1 → ce' ≤ ce + 1 → sl' ≤ sl + 24 → Rn G RL cL_law 4 ret false room_1 lawQ ce' sl' 1723 [some (.ref (yb_b G)), some (.ref (yb_ad G 0)), some (.ref (yb_ad G 176)), some (.int (nI i))] [] (yb_mk s' X')) : Rn G RL cL_law 4 ret false room_1 lawQ ce sl 1215 [some (.ref (yb_b G)), some (.ref (yb_ad G 0)), some (.ref (yb_ad G 176)), some (.int (nI i))] [] (yb_mk s X) := by
  have hz0 : ce ≤ room_1.cells ∧ sl ≤ room_1.slots := ⟨show ce ≤ 600000 by omega, show sl ≤ 7302249 by omega⟩
  obtain ⟨r, s1, s2, h1, h2, hI⟩ := E (yb_xs G (nI i + (1 : Int32)).toNatClampNeg) s hs
  refine n_aload_n (i := 1) dL_law_1215 rfl rfl ?_
  refine n_aload_n (i := 0) dL_law_1216 rfl rfl ?_
  refine n_iload_n (i := 3) dL_law_1217 rfl rfl ?_
  refine n_iconst (1 : Int32) dL_law_1218 (by decide) ?_
  refine n_iadd dL_law_1219 ?_
  refine n_sld (law_in1 hi) dL_law_1220 ?_
  refine p_callVi (As := [.int (yb_xs G (nI i + (1 : Int32)).toNatClampNeg)]) (t_X11_go h1) cv_L_146 (sh_0 _ _) rfl rfl (Nat.le_of_ble_eq_true rfl) dL_law_1221 ⟨Nat.le_of_ble_eq_true rfl, Nat.le_of_ble_eq_true rfl⟩ ⟨rfl, rfl⟩ hz0 (fun _ => ?_)
  refine n_aload_n (i := 2) dL_law_1224 rfl rfl ?_
  refine n_aload_n (i := 0) dL_law_1225 rfl rfl ?_
  refine n_iload_n (i := 3) dL_law_1226 rfl rfl ?_
  refine n_iconst (1 : Int32) dL_law_1227 (by decide) ?_
  refine n_iadd dL_law_1228 ?_
  refine n_sld (law_in1 hi) dL_law_1229 ?_
  refine p_callVi (As := [.int (yb_xs G (nI i + (1 : Int32)).toNatClampNeg)]) (t_X12_go h2) cv_L_149 (sh_176 _ _) rfl rfl (Nat.le_of_ble_eq_true rfl) dL_law_1230 ⟨Nat.le_of_ble_eq_true rfl, Nat.le_of_ble_eq_true rfl⟩ ⟨rfl, rfl⟩ hz0 (fun _ => ?_)
  refine n_icmp_eq 1723 dL_law_1233 (by decide) (fun _ => ?_) (fun c => absurd rfl c)
  exact hnext s2 X ce sl hI (Nat.le_succ _) (Nat.le_succ _) (Nat.le_add_right _ _)
set_option maxHeartbeats 4000000 in
set_option maxRecDepth 20000 in
theorem law_op_32 {Inv : yb_S → Prop} (E : ∀ (a1 a2 : Int32) (s : yb_S), Inv s → ∃ (r : Int32) (s1 s2 : yb_S), (f_X11_night a1 a2 s = some r ∧ s1 = s) ∧ (f_X12_night a1 a2 s1 = some r ∧ s2 = s1) ∧ Inv s2) {G : yb_G} {s : yb_S} {X : List (FieldType × Nat)} {ce sl i : Nat} (hs : Inv s) (hi : i + 6 ≤ yb_n G ∧ yb_n G ≤ 3072) (hX : 603 + X.length + 1 ≤ 100000) (hce : ce + 1 ≤ 600000) (hsl : sl + 24 ≤ 7302249) (hnext : ∀ (s' : yb_S) (X' : List (FieldType × Nat)) (ce' sl' : Nat), Inv s' → X'.length ≤ X.length + 1 → ce' ≤ ce + 1 → sl' ≤ sl + 24 → Rn G RL cL_law 4 ret false room_1 lawQ ce' sl' 1723 [some (.ref (yb_b G)), some (.ref (yb_ad G 0)), some (.ref (yb_ad G 176)), some (.int (nI i))] [] (yb_mk s' X')) : Rn G RL cL_law 4 ret false room_1 lawQ ce sl 1238 [some (.ref (yb_b G)), some (.ref (yb_ad G 0)), some (.ref (yb_ad G 176)), some (.int (nI i))] [] (yb_mk s X) := by
  have hz0 : ce ≤ room_1.cells ∧ sl ≤ room_1.slots := ⟨show ce ≤ 600000 by omega, show sl ≤ 7302249 by omega⟩
  obtain ⟨r, s1, s2, h1, h2, hI⟩ := E (yb_xs G (nI i + (1 : Int32)).toNatClampNeg) (yb_xs G (nI i + (2 : Int32)).toNatClampNeg) s hs
  obtain ⟨h2, rfl⟩ := h2
  obtain ⟨h1, rfl⟩ := h1
  refine n_aload_n (i := 1) dL_law_1238 rfl rfl ?_
  refine n_aload_n (i := 0) dL_law_1239 rfl rfl ?_
  refine n_iload_n (i := 3) dL_law_1240 rfl rfl ?_
  refine n_iconst (1 : Int32) dL_law_1241 (by decide) ?_
  refine n_iadd dL_law_1242 ?_
  refine n_sld (law_in1 hi) dL_law_1243 ?_
  refine n_aload_n (i := 0) dL_law_1244 rfl rfl ?_
  refine n_iload_n (i := 3) dL_law_1245 rfl rfl ?_
  refine n_iconst (2 : Int32) dL_law_1246 (by decide) ?_
  refine n_iadd dL_law_1247 ?_
  refine n_sld (law_in2 hi) dL_law_1248 ?_
  refine p_callVi (As := [.int (yb_xs G (nI i + (1 : Int32)).toNatClampNeg), .int (yb_xs G (nI i + (2 : Int32)).toNatClampNeg)]) (t_X11_night h1) cv_L_150 (sh_0 _ _) rfl rfl (Nat.le_of_ble_eq_true rfl) dL_law_1249 ⟨Nat.le_of_ble_eq_true rfl, Nat.le_of_ble_eq_true rfl⟩ ⟨rfl, rfl⟩ hz0 (fun _ => ?_)
  refine n_aload_n (i := 2) dL_law_1252 rfl rfl ?_
  refine n_aload_n (i := 0) dL_law_1253 rfl rfl ?_
  refine n_iload_n (i := 3) dL_law_1254 rfl rfl ?_
  refine n_iconst (1 : Int32) dL_law_1255 (by decide) ?_
  refine n_iadd dL_law_1256 ?_
  refine n_sld (law_in1 hi) dL_law_1257 ?_
  refine n_aload_n (i := 0) dL_law_1258 rfl rfl ?_
  refine n_iload_n (i := 3) dL_law_1259 rfl rfl ?_
  refine n_iconst (2 : Int32) dL_law_1260 (by decide) ?_
  refine n_iadd dL_law_1261 ?_
  refine n_sld (law_in2 hi) dL_law_1262 ?_
  refine p_callVi (As := [.int (yb_xs G (nI i + (1 : Int32)).toNatClampNeg), .int (yb_xs G (nI i + (2 : Int32)).toNatClampNeg)]) (t_X12_night h2) cv_L_153 (sh_176 _ _) rfl rfl (Nat.le_of_ble_eq_true rfl) dL_law_1263 ⟨Nat.le_of_ble_eq_true rfl, Nat.le_of_ble_eq_true rfl⟩ ⟨rfl, rfl⟩ hz0 (fun _ => ?_)
  refine n_icmp_eq 1723 dL_law_1266 (by decide) (fun _ => ?_) (fun c => absurd rfl c)
  exact hnext s2 X ce sl hI (Nat.le_succ _) (Nat.le_succ _) (Nat.le_add_right _ _)
set_option maxHeartbeats 4000000 in
set_option maxRecDepth 20000 in
theorem law_op_33 {Inv : yb_S → Prop} (E : ∀ (a1 a2 : Int32) (s : yb_S), Inv s → ∃ (r : Int32) (s1 s2 : yb_S), (f_X11_lead a1 a2 s = some r ∧ s1 = s) ∧ (f_X12_lead a1 a2 s1 = some r ∧ s2 = s1) ∧ Inv s2) {G : yb_G} {s : yb_S} {X : List (FieldType × Nat)} {ce sl i : Nat} (hs : Inv s) (hi : i + 6 ≤ yb_n G ∧ yb_n G ≤ 3072) (hX : 603 + X.length + 1 ≤ 100000) (hce : ce + 1 ≤ 600000) (hsl : sl + 24 ≤ 7302249) (hnext : ∀ (s' : yb_S) (X' : List (FieldType × Nat)) (ce' sl' : Nat), Inv s' → X'.length ≤ X.length + 1 → ce' ≤ ce + 1 → sl' ≤ sl + 24 → Rn G RL cL_law 4 ret false room_1 lawQ ce' sl' 1723 [some (.ref (yb_b G)), some (.ref (yb_ad G 0)), some (.ref (yb_ad G 176)), some (.int (nI i))] [] (yb_mk s' X')) : Rn G RL cL_law 4 ret false room_1 lawQ ce sl 1271 [some (.ref (yb_b G)), some (.ref (yb_ad G 0)), some (.ref (yb_ad G 176)), some (.int (nI i))] [] (yb_mk s X) := by
  have hz0 : ce ≤ room_1.cells ∧ sl ≤ room_1.slots := ⟨show ce ≤ 600000 by omega, show sl ≤ 7302249 by omega⟩
  obtain ⟨r, s1, s2, h1, h2, hI⟩ := E (yb_xs G (nI i + (1 : Int32)).toNatClampNeg) (yb_xs G (nI i + (2 : Int32)).toNatClampNeg) s hs
  obtain ⟨h2, rfl⟩ := h2
  obtain ⟨h1, rfl⟩ := h1
  refine n_aload_n (i := 1) dL_law_1271 rfl rfl ?_
  refine n_aload_n (i := 0) dL_law_1272 rfl rfl ?_
  refine n_iload_n (i := 3) dL_law_1273 rfl rfl ?_
  refine n_iconst (1 : Int32) dL_law_1274 (by decide) ?_
  refine n_iadd dL_law_1275 ?_
  refine n_sld (law_in1 hi) dL_law_1276 ?_
  refine n_aload_n (i := 0) dL_law_1277 rfl rfl ?_
  refine n_iload_n (i := 3) dL_law_1278 rfl rfl ?_
  refine n_iconst (2 : Int32) dL_law_1279 (by decide) ?_
  refine n_iadd dL_law_1280 ?_
  refine n_sld (law_in2 hi) dL_law_1281 ?_
  refine p_callVi (As := [.int (yb_xs G (nI i + (1 : Int32)).toNatClampNeg), .int (yb_xs G (nI i + (2 : Int32)).toNatClampNeg)]) (t_X11_lead h1) cv_L_154 (sh_0 _ _) rfl rfl (Nat.le_of_ble_eq_true rfl) dL_law_1282 ⟨Nat.le_of_ble_eq_true rfl, Nat.le_of_ble_eq_true rfl⟩ ⟨rfl, rfl⟩ hz0 (fun _ => ?_)
  refine n_aload_n (i := 2) dL_law_1285 rfl rfl ?_
  refine n_aload_n (i := 0) dL_law_1286 rfl rfl ?_
  refine n_iload_n (i := 3) dL_law_1287 rfl rfl ?_
  refine n_iconst (1 : Int32) dL_law_1288 (by decide) ?_
  refine n_iadd dL_law_1289 ?_
  refine n_sld (law_in1 hi) dL_law_1290 ?_
  refine n_aload_n (i := 0) dL_law_1291 rfl rfl ?_
  refine n_iload_n (i := 3) dL_law_1292 rfl rfl ?_
  refine n_iconst (2 : Int32) dL_law_1293 (by decide) ?_
  refine n_iadd dL_law_1294 ?_
  refine n_sld (law_in2 hi) dL_law_1295 ?_
  refine p_callVi (As := [.int (yb_xs G (nI i + (1 : Int32)).toNatClampNeg), .int (yb_xs G (nI i + (2 : Int32)).toNatClampNeg)]) (t_X12_lead h2) cv_L_157 (sh_176 _ _) rfl rfl (Nat.le_of_ble_eq_true rfl) dL_law_1296 ⟨Nat.le_of_ble_eq_true rfl, Nat.le_of_ble_eq_true rfl⟩ ⟨rfl, rfl⟩ hz0 (fun _ => ?_)
  refine n_icmp_eq 1723 dL_law_1299 (by decide) (fun _ => ?_) (fun c => absurd rfl c)
  exact hnext s2 X ce sl hI (Nat.le_succ _) (Nat.le_succ _) (Nat.le_add_right _ _)
set_option maxHeartbeats 4000000 in
set_option maxRecDepth 20000 in
theorem law_op_34 {Inv : yb_S → Prop} (E : ∀ (s : yb_S), Inv s → ∃ (r : Int32) (s1 s2 : yb_S), f_X11_beyond s = some (r, s1) ∧ f_X12_beyond s1 = some (r, s2) ∧ Inv s2) {G : yb_G} {s : yb_S} {X : List (FieldType × Nat)} {ce sl i : Nat} (hs : Inv s) (hi : i + 6 ≤ yb_n G ∧ yb_n G ≤ 3072) (hX : 603 + X.length + 1 ≤ 100000) (hce : ce + 1 ≤ 600000) (hsl : sl + 24 ≤ 7302249) (hnext : ∀ (s' : yb_S) (X' : List (FieldType × Nat)) (ce' sl' : Nat), Inv s' → X'.length ≤ X.length + 1 → ce' ≤ ce + 1 → sl' ≤ sl + 24 → Rn G RL cL_law 4 ret false room_1 lawQ ce' sl' 1723 [some (.ref (yb_b G)), some (.ref (yb_ad G 0)), some (.ref (yb_ad G 176)), some (.int (nI i))] [] (yb_mk s' X')) : Rn G RL cL_law 4 ret false room_1 lawQ ce sl 1304 [some (.ref (yb_b G)), some (.ref (yb_ad G 0)), some (.ref (yb_ad G 176)), some (.int (nI i))] [] (yb_mk s X) := by
  have hz0 : ce ≤ room_1.cells ∧ sl ≤ room_1.slots := ⟨show ce ≤ 600000 by omega, show sl ≤ 7302249 by omega⟩
  obtain ⟨r, s1, s2, h1, h2, hI⟩ := E s hs
  refine n_aload_n (i := 1) dL_law_1304 rfl rfl ?_
  refine p_callVi (As := []) (t_X11_beyond h1) cv_L_158 (sh_0 _ _) rfl rfl (Nat.le_of_ble_eq_true rfl) dL_law_1305 ⟨Nat.le_of_ble_eq_true rfl, Nat.le_of_ble_eq_true rfl⟩ ⟨rfl, rfl⟩ hz0 (fun _ => ?_)
  refine n_aload_n (i := 2) dL_law_1308 rfl rfl ?_
  refine p_callVi (As := []) (t_X12_beyond h2) cv_L_161 (sh_176 _ _) rfl rfl (Nat.le_of_ble_eq_true rfl) dL_law_1309 ⟨Nat.le_of_ble_eq_true rfl, Nat.le_of_ble_eq_true rfl⟩ ⟨rfl, rfl⟩ hz0 (fun _ => ?_)
  refine n_icmp_eq 1723 dL_law_1312 (by decide) (fun _ => ?_) (fun c => absurd rfl c)
  exact hnext s2 X ce sl hI (Nat.le_succ _) (Nat.le_succ _) (Nat.le_add_right _ _)
set_option maxHeartbeats 4000000 in
set_option maxRecDepth 20000 in
theorem law_op_35 {Inv : yb_S → Prop} (E : ∀ (a1 : Int32) (s : yb_S), Inv s → ∃ (r : Int32) (s1 s2 : yb_S), f_X11_ends a1 s = some (r, s1) ∧ f_X12_ends a1 s1 = some (r, s2) ∧ Inv s2) {G : yb_G} {s : yb_S} {X : List (FieldType × Nat)} {ce sl i : Nat} (hs : Inv s) (hi : i + 6 ≤ yb_n G ∧ yb_n G ≤ 3072) (hX : 603 + X.length + 1 ≤ 100000) (hce : ce + 1 ≤ 600000) (hsl : sl + 24 ≤ 7302249) (hnext : ∀ (s' : yb_S) (X' : List (FieldType × Nat)) (ce' sl' : Nat), Inv s' → X'.length ≤ X.length + 1 → ce' ≤ ce + 1 → sl' ≤ sl + 24 → Rn G RL cL_law 4 ret false room_1 lawQ ce' sl' 1723 [some (.ref (yb_b G)), some (.ref (yb_ad G 0)), some (.ref (yb_ad G 176)), some (.int (nI i))] [] (yb_mk s' X')) : Rn G RL cL_law 4 ret false room_1 lawQ ce sl 1317 [some (.ref (yb_b G)), some (.ref (yb_ad G 0)), some (.ref (yb_ad G 176)), some (.int (nI i))] [] (yb_mk s X) := by
  have hz0 : ce ≤ room_1.cells ∧ sl ≤ room_1.slots := ⟨show ce ≤ 600000 by omega, show sl ≤ 7302249 by omega⟩
  obtain ⟨r, s1, s2, h1, h2, hI⟩ := E (yb_xs G (nI i + (1 : Int32)).toNatClampNeg) s hs
  refine n_aload_n (i := 1) dL_law_1317 rfl rfl ?_
  refine n_aload_n (i := 0) dL_law_1318 rfl rfl ?_
  refine n_iload_n (i := 3) dL_law_1319 rfl rfl ?_
  refine n_iconst (1 : Int32) dL_law_1320 (by decide) ?_
  refine n_iadd dL_law_1321 ?_
  refine n_sld (law_in1 hi) dL_law_1322 ?_
  refine p_callVi (As := [.int (yb_xs G (nI i + (1 : Int32)).toNatClampNeg)]) (t_X11_ends h1) cv_L_162 (sh_0 _ _) rfl rfl (Nat.le_of_ble_eq_true rfl) dL_law_1323 ⟨Nat.le_of_ble_eq_true rfl, Nat.le_of_ble_eq_true rfl⟩ ⟨rfl, rfl⟩ hz0 (fun _ => ?_)
  refine n_aload_n (i := 2) dL_law_1326 rfl rfl ?_
  refine n_aload_n (i := 0) dL_law_1327 rfl rfl ?_
  refine n_iload_n (i := 3) dL_law_1328 rfl rfl ?_
  refine n_iconst (1 : Int32) dL_law_1329 (by decide) ?_
  refine n_iadd dL_law_1330 ?_
  refine n_sld (law_in1 hi) dL_law_1331 ?_
  refine p_callVi (As := [.int (yb_xs G (nI i + (1 : Int32)).toNatClampNeg)]) (t_X12_ends h2) cv_L_165 (sh_176 _ _) rfl rfl (Nat.le_of_ble_eq_true rfl) dL_law_1332 ⟨Nat.le_of_ble_eq_true rfl, Nat.le_of_ble_eq_true rfl⟩ ⟨rfl, rfl⟩ hz0 (fun _ => ?_)
  refine n_icmp_eq 1723 dL_law_1335 (by decide) (fun _ => ?_) (fun c => absurd rfl c)
  exact hnext s2 X ce sl hI (Nat.le_succ _) (Nat.le_succ _) (Nat.le_add_right _ _)
set_option maxHeartbeats 4000000 in
set_option maxRecDepth 20000 in
theorem law_op_36 {Inv : yb_S → Prop} (E : ∀ (a1 a2 a3 : Int32) (s : yb_S), Inv s → ∃ (r : Int32) (s1 s2 : yb_S), f_X11_show a1 a2 a3 s = some (r, s1) ∧ f_X12_show a1 a2 a3 s1 = some (r, s2) ∧ Inv s2) {G : yb_G} {s : yb_S} {X : List (FieldType × Nat)} {ce sl i : Nat} (hs : Inv s) (hi : i + 6 ≤ yb_n G ∧ yb_n G ≤ 3072) (hX : 603 + X.length + 1 ≤ 100000) (hce : ce + 1 ≤ 600000) (hsl : sl + 24 ≤ 7302249) (hnext : ∀ (s' : yb_S) (X' : List (FieldType × Nat)) (ce' sl' : Nat), Inv s' → X'.length ≤ X.length + 1 → ce' ≤ ce + 1 → sl' ≤ sl + 24 → Rn G RL cL_law 4 ret false room_1 lawQ ce' sl' 1723 [some (.ref (yb_b G)), some (.ref (yb_ad G 0)), some (.ref (yb_ad G 176)), some (.int (nI i))] [] (yb_mk s' X')) : Rn G RL cL_law 4 ret false room_1 lawQ ce sl 1340 [some (.ref (yb_b G)), some (.ref (yb_ad G 0)), some (.ref (yb_ad G 176)), some (.int (nI i))] [] (yb_mk s X) := by
  have hz0 : ce ≤ room_1.cells ∧ sl ≤ room_1.slots := ⟨show ce ≤ 600000 by omega, show sl ≤ 7302249 by omega⟩
  obtain ⟨r, s1, s2, h1, h2, hI⟩ := E (yb_xs G (nI i + (1 : Int32)).toNatClampNeg) (yb_xs G (nI i + (2 : Int32)).toNatClampNeg) (yb_xs G (nI i + (3 : Int32)).toNatClampNeg) s hs
  refine n_aload_n (i := 1) dL_law_1340 rfl rfl ?_
  refine n_aload_n (i := 0) dL_law_1341 rfl rfl ?_
  refine n_iload_n (i := 3) dL_law_1342 rfl rfl ?_
  refine n_iconst (1 : Int32) dL_law_1343 (by decide) ?_
  refine n_iadd dL_law_1344 ?_
  refine n_sld (law_in1 hi) dL_law_1345 ?_
  refine n_aload_n (i := 0) dL_law_1346 rfl rfl ?_
  refine n_iload_n (i := 3) dL_law_1347 rfl rfl ?_
  refine n_iconst (2 : Int32) dL_law_1348 (by decide) ?_
  refine n_iadd dL_law_1349 ?_
  refine n_sld (law_in2 hi) dL_law_1350 ?_
  refine n_aload_n (i := 0) dL_law_1351 rfl rfl ?_
  refine n_iload_n (i := 3) dL_law_1352 rfl rfl ?_
  refine n_iconst (3 : Int32) dL_law_1353 (by decide) ?_
  refine n_iadd dL_law_1354 ?_
  refine n_sld (law_in3 hi) dL_law_1355 ?_
  refine p_callVi (As := [.int (yb_xs G (nI i + (1 : Int32)).toNatClampNeg), .int (yb_xs G (nI i + (2 : Int32)).toNatClampNeg), .int (yb_xs G (nI i + (3 : Int32)).toNatClampNeg)]) (t_X11_show h1) cv_L_166 (sh_0 _ _) rfl rfl (Nat.le_of_ble_eq_true rfl) dL_law_1356 ⟨Nat.le_of_ble_eq_true rfl, Nat.le_of_ble_eq_true rfl⟩ ⟨rfl, rfl⟩ hz0 (fun _ => ?_)
  refine n_aload_n (i := 2) dL_law_1359 rfl rfl ?_
  refine n_aload_n (i := 0) dL_law_1360 rfl rfl ?_
  refine n_iload_n (i := 3) dL_law_1361 rfl rfl ?_
  refine n_iconst (1 : Int32) dL_law_1362 (by decide) ?_
  refine n_iadd dL_law_1363 ?_
  refine n_sld (law_in1 hi) dL_law_1364 ?_
  refine n_aload_n (i := 0) dL_law_1365 rfl rfl ?_
  refine n_iload_n (i := 3) dL_law_1366 rfl rfl ?_
  refine n_iconst (2 : Int32) dL_law_1367 (by decide) ?_
  refine n_iadd dL_law_1368 ?_
  refine n_sld (law_in2 hi) dL_law_1369 ?_
  refine n_aload_n (i := 0) dL_law_1370 rfl rfl ?_
  refine n_iload_n (i := 3) dL_law_1371 rfl rfl ?_
  refine n_iconst (3 : Int32) dL_law_1372 (by decide) ?_
  refine n_iadd dL_law_1373 ?_
  refine n_sld (law_in3 hi) dL_law_1374 ?_
  refine p_callVi (As := [.int (yb_xs G (nI i + (1 : Int32)).toNatClampNeg), .int (yb_xs G (nI i + (2 : Int32)).toNatClampNeg), .int (yb_xs G (nI i + (3 : Int32)).toNatClampNeg)]) (t_X12_show h2) cv_L_169 (sh_176 _ _) rfl rfl (Nat.le_of_ble_eq_true rfl) dL_law_1375 ⟨Nat.le_of_ble_eq_true rfl, Nat.le_of_ble_eq_true rfl⟩ ⟨rfl, rfl⟩ hz0 (fun _ => ?_)
  refine n_icmp_eq 1723 dL_law_1378 (by decide) (fun _ => ?_) (fun c => absurd rfl c)
  exact hnext s2 X ce sl hI (Nat.le_succ _) (Nat.le_succ _) (Nat.le_add_right _ _)
set_option maxHeartbeats 4000000 in
set_option maxRecDepth 20000 in
theorem law_op_37 {Inv : yb_S → Prop} (E : ∀ (a1 a2 a3 : Int32) (s : yb_S), Inv s → ∃ (r : Int32) (s1 s2 : yb_S), f_X11_best a1 a2 a3 s = some (r, s1) ∧ f_X12_best a1 a2 a3 s1 = some (r, s2) ∧ Inv s2) {G : yb_G} {s : yb_S} {X : List (FieldType × Nat)} {ce sl i : Nat} (hs : Inv s) (hi : i + 6 ≤ yb_n G ∧ yb_n G ≤ 3072) (hX : 603 + X.length + 1 ≤ 100000) (hce : ce + 1 ≤ 600000) (hsl : sl + 24 ≤ 7302249) (hnext : ∀ (s' : yb_S) (X' : List (FieldType × Nat)) (ce' sl' : Nat), Inv s' → X'.length ≤ X.length + 1 → ce' ≤ ce + 1 → sl' ≤ sl + 24 → Rn G RL cL_law 4 ret false room_1 lawQ ce' sl' 1723 [some (.ref (yb_b G)), some (.ref (yb_ad G 0)), some (.ref (yb_ad G 176)), some (.int (nI i))] [] (yb_mk s' X')) : Rn G RL cL_law 4 ret false room_1 lawQ ce sl 1383 [some (.ref (yb_b G)), some (.ref (yb_ad G 0)), some (.ref (yb_ad G 176)), some (.int (nI i))] [] (yb_mk s X) := by
  have hz0 : ce ≤ room_1.cells ∧ sl ≤ room_1.slots := ⟨show ce ≤ 600000 by omega, show sl ≤ 7302249 by omega⟩
  obtain ⟨r, s1, s2, h1, h2, hI⟩ := E (yb_xs G (nI i + (1 : Int32)).toNatClampNeg) (yb_xs G (nI i + (2 : Int32)).toNatClampNeg) (yb_xs G (nI i + (3 : Int32)).toNatClampNeg) s hs
  refine n_aload_n (i := 1) dL_law_1383 rfl rfl ?_
  refine n_aload_n (i := 0) dL_law_1384 rfl rfl ?_
  refine n_iload_n (i := 3) dL_law_1385 rfl rfl ?_
  refine n_iconst (1 : Int32) dL_law_1386 (by decide) ?_
  refine n_iadd dL_law_1387 ?_
  refine n_sld (law_in1 hi) dL_law_1388 ?_
  refine n_aload_n (i := 0) dL_law_1389 rfl rfl ?_
  refine n_iload_n (i := 3) dL_law_1390 rfl rfl ?_
  refine n_iconst (2 : Int32) dL_law_1391 (by decide) ?_
  refine n_iadd dL_law_1392 ?_
  refine n_sld (law_in2 hi) dL_law_1393 ?_
  refine n_aload_n (i := 0) dL_law_1394 rfl rfl ?_
  refine n_iload_n (i := 3) dL_law_1395 rfl rfl ?_
  refine n_iconst (3 : Int32) dL_law_1396 (by decide) ?_
  refine n_iadd dL_law_1397 ?_
  refine n_sld (law_in3 hi) dL_law_1398 ?_
  refine p_callVi (As := [.int (yb_xs G (nI i + (1 : Int32)).toNatClampNeg), .int (yb_xs G (nI i + (2 : Int32)).toNatClampNeg), .int (yb_xs G (nI i + (3 : Int32)).toNatClampNeg)]) (t_X11_best h1) cv_L_170 (sh_0 _ _) rfl rfl (Nat.le_of_ble_eq_true rfl) dL_law_1399 ⟨Nat.le_of_ble_eq_true rfl, Nat.le_of_ble_eq_true rfl⟩ ⟨rfl, rfl⟩ hz0 (fun _ => ?_)
  refine n_aload_n (i := 2) dL_law_1402 rfl rfl ?_
  refine n_aload_n (i := 0) dL_law_1403 rfl rfl ?_
  refine n_iload_n (i := 3) dL_law_1404 rfl rfl ?_
  refine n_iconst (1 : Int32) dL_law_1405 (by decide) ?_
  refine n_iadd dL_law_1406 ?_
  refine n_sld (law_in1 hi) dL_law_1407 ?_
  refine n_aload_n (i := 0) dL_law_1408 rfl rfl ?_
  refine n_iload_n (i := 3) dL_law_1409 rfl rfl ?_
  refine n_iconst (2 : Int32) dL_law_1410 (by decide) ?_
  refine n_iadd dL_law_1411 ?_
  refine n_sld (law_in2 hi) dL_law_1412 ?_
  refine n_aload_n (i := 0) dL_law_1413 rfl rfl ?_
  refine n_iload_n (i := 3) dL_law_1414 rfl rfl ?_
  refine n_iconst (3 : Int32) dL_law_1415 (by decide) ?_
  refine n_iadd dL_law_1416 ?_
  refine n_sld (law_in3 hi) dL_law_1417 ?_
  refine p_callVi (As := [.int (yb_xs G (nI i + (1 : Int32)).toNatClampNeg), .int (yb_xs G (nI i + (2 : Int32)).toNatClampNeg), .int (yb_xs G (nI i + (3 : Int32)).toNatClampNeg)]) (t_X12_best h2) cv_L_173 (sh_176 _ _) rfl rfl (Nat.le_of_ble_eq_true rfl) dL_law_1418 ⟨Nat.le_of_ble_eq_true rfl, Nat.le_of_ble_eq_true rfl⟩ ⟨rfl, rfl⟩ hz0 (fun _ => ?_)
  refine n_icmp_eq 1723 dL_law_1421 (by decide) (fun _ => ?_) (fun c => absurd rfl c)
  exact hnext s2 X ce sl hI (Nat.le_succ _) (Nat.le_succ _) (Nat.le_add_right _ _)
set_option maxHeartbeats 4000000 in
set_option maxRecDepth 20000 in
theorem law_op_38 {Inv : yb_S → Prop} (E : ∀ (a1 a2 a3 : Int32) (s : yb_S), Inv s → ∃ (r : Int32) (s1 s2 : yb_S), f_X11_boat a1 a2 a3 s = some (r, s1) ∧ f_X12_boat a1 a2 a3 s1 = some (r, s2) ∧ Inv s2) {G : yb_G} {s : yb_S} {X : List (FieldType × Nat)} {ce sl i : Nat} (hs : Inv s) (hi : i + 6 ≤ yb_n G ∧ yb_n G ≤ 3072) (hX : 603 + X.length + 1 ≤ 100000) (hce : ce + 1 ≤ 600000) (hsl : sl + 24 ≤ 7302249) (hnext : ∀ (s' : yb_S) (X' : List (FieldType × Nat)) (ce' sl' : Nat), Inv s' → X'.length ≤ X.length + 1 → ce' ≤ ce + 1 → sl' ≤ sl + 24 → Rn G RL cL_law 4 ret false room_1 lawQ ce' sl' 1723 [some (.ref (yb_b G)), some (.ref (yb_ad G 0)), some (.ref (yb_ad G 176)), some (.int (nI i))] [] (yb_mk s' X')) : Rn G RL cL_law 4 ret false room_1 lawQ ce sl 1426 [some (.ref (yb_b G)), some (.ref (yb_ad G 0)), some (.ref (yb_ad G 176)), some (.int (nI i))] [] (yb_mk s X) := by
  have hz0 : ce ≤ room_1.cells ∧ sl ≤ room_1.slots := ⟨show ce ≤ 600000 by omega, show sl ≤ 7302249 by omega⟩
  obtain ⟨r, s1, s2, h1, h2, hI⟩ := E (yb_xs G (nI i + (1 : Int32)).toNatClampNeg) (yb_xs G (nI i + (2 : Int32)).toNatClampNeg) (yb_xs G (nI i + (3 : Int32)).toNatClampNeg) s hs
  refine n_aload_n (i := 1) dL_law_1426 rfl rfl ?_
  refine n_aload_n (i := 0) dL_law_1427 rfl rfl ?_
  refine n_iload_n (i := 3) dL_law_1428 rfl rfl ?_
  refine n_iconst (1 : Int32) dL_law_1429 (by decide) ?_
  refine n_iadd dL_law_1430 ?_
  refine n_sld (law_in1 hi) dL_law_1431 ?_
  refine n_aload_n (i := 0) dL_law_1432 rfl rfl ?_
  refine n_iload_n (i := 3) dL_law_1433 rfl rfl ?_
  refine n_iconst (2 : Int32) dL_law_1434 (by decide) ?_
  refine n_iadd dL_law_1435 ?_
  refine n_sld (law_in2 hi) dL_law_1436 ?_
  refine n_aload_n (i := 0) dL_law_1437 rfl rfl ?_
  refine n_iload_n (i := 3) dL_law_1438 rfl rfl ?_
  refine n_iconst (3 : Int32) dL_law_1439 (by decide) ?_
  refine n_iadd dL_law_1440 ?_
  refine n_sld (law_in3 hi) dL_law_1441 ?_
  refine p_callVi (As := [.int (yb_xs G (nI i + (1 : Int32)).toNatClampNeg), .int (yb_xs G (nI i + (2 : Int32)).toNatClampNeg), .int (yb_xs G (nI i + (3 : Int32)).toNatClampNeg)]) (t_X11_boat h1) cv_L_174 (sh_0 _ _) rfl rfl (Nat.le_of_ble_eq_true rfl) dL_law_1442 ⟨Nat.le_of_ble_eq_true rfl, Nat.le_of_ble_eq_true rfl⟩ ⟨rfl, rfl⟩ hz0 (fun _ => ?_)
  refine n_aload_n (i := 2) dL_law_1445 rfl rfl ?_
  refine n_aload_n (i := 0) dL_law_1446 rfl rfl ?_
  refine n_iload_n (i := 3) dL_law_1447 rfl rfl ?_
  refine n_iconst (1 : Int32) dL_law_1448 (by decide) ?_
  refine n_iadd dL_law_1449 ?_
  refine n_sld (law_in1 hi) dL_law_1450 ?_
  refine n_aload_n (i := 0) dL_law_1451 rfl rfl ?_
  refine n_iload_n (i := 3) dL_law_1452 rfl rfl ?_
  refine n_iconst (2 : Int32) dL_law_1453 (by decide) ?_
  refine n_iadd dL_law_1454 ?_
  refine n_sld (law_in2 hi) dL_law_1455 ?_
  refine n_aload_n (i := 0) dL_law_1456 rfl rfl ?_
  refine n_iload_n (i := 3) dL_law_1457 rfl rfl ?_
  refine n_iconst (3 : Int32) dL_law_1458 (by decide) ?_
  refine n_iadd dL_law_1459 ?_
  refine n_sld (law_in3 hi) dL_law_1460 ?_
  refine p_callVi (As := [.int (yb_xs G (nI i + (1 : Int32)).toNatClampNeg), .int (yb_xs G (nI i + (2 : Int32)).toNatClampNeg), .int (yb_xs G (nI i + (3 : Int32)).toNatClampNeg)]) (t_X12_boat h2) cv_L_177 (sh_176 _ _) rfl rfl (Nat.le_of_ble_eq_true rfl) dL_law_1461 ⟨Nat.le_of_ble_eq_true rfl, Nat.le_of_ble_eq_true rfl⟩ ⟨rfl, rfl⟩ hz0 (fun _ => ?_)
  refine n_icmp_eq 1723 dL_law_1464 (by decide) (fun _ => ?_) (fun c => absurd rfl c)
  exact hnext s2 X ce sl hI (Nat.le_succ _) (Nat.le_succ _) (Nat.le_add_right _ _)
set_option maxHeartbeats 4000000 in
set_option maxRecDepth 20000 in
theorem law_op_39 {Inv : yb_S → Prop} (E : ∀ (a1 a2 : Int32) (s : yb_S), Inv s → ∃ (r : Int32) (s1 s2 : yb_S), f_X11_foretell a1 a2 s = some (r, s1) ∧ f_X12_foretell a1 a2 s1 = some (r, s2) ∧ Inv s2) {G : yb_G} {s : yb_S} {X : List (FieldType × Nat)} {ce sl i : Nat} (hs : Inv s) (hi : i + 6 ≤ yb_n G ∧ yb_n G ≤ 3072) (hX : 603 + X.length + 1 ≤ 100000) (hce : ce + 1 ≤ 600000) (hsl : sl + 24 ≤ 7302249) (hnext : ∀ (s' : yb_S) (X' : List (FieldType × Nat)) (ce' sl' : Nat), Inv s' → X'.length ≤ X.length + 1 → ce' ≤ ce + 1 → sl' ≤ sl + 24 → Rn G RL cL_law 4 ret false room_1 lawQ ce' sl' 1723 [some (.ref (yb_b G)), some (.ref (yb_ad G 0)), some (.ref (yb_ad G 176)), some (.int (nI i))] [] (yb_mk s' X')) : Rn G RL cL_law 4 ret false room_1 lawQ ce sl 1469 [some (.ref (yb_b G)), some (.ref (yb_ad G 0)), some (.ref (yb_ad G 176)), some (.int (nI i))] [] (yb_mk s X) := by
  have hz0 : ce ≤ room_1.cells ∧ sl ≤ room_1.slots := ⟨show ce ≤ 600000 by omega, show sl ≤ 7302249 by omega⟩
  obtain ⟨r, s1, s2, h1, h2, hI⟩ := E (yb_xs G (nI i + (1 : Int32)).toNatClampNeg) (yb_xs G (nI i + (2 : Int32)).toNatClampNeg) s hs
  refine n_aload_n (i := 1) dL_law_1469 rfl rfl ?_
  refine n_aload_n (i := 0) dL_law_1470 rfl rfl ?_
  refine n_iload_n (i := 3) dL_law_1471 rfl rfl ?_
  refine n_iconst (1 : Int32) dL_law_1472 (by decide) ?_
  refine n_iadd dL_law_1473 ?_
  refine n_sld (law_in1 hi) dL_law_1474 ?_
  refine n_aload_n (i := 0) dL_law_1475 rfl rfl ?_
  refine n_iload_n (i := 3) dL_law_1476 rfl rfl ?_
  refine n_iconst (2 : Int32) dL_law_1477 (by decide) ?_
  refine n_iadd dL_law_1478 ?_
  refine n_sld (law_in2 hi) dL_law_1479 ?_
  refine p_callVi (As := [.int (yb_xs G (nI i + (1 : Int32)).toNatClampNeg), .int (yb_xs G (nI i + (2 : Int32)).toNatClampNeg)]) (t_X11_foretell h1) cv_L_178 (sh_0 _ _) rfl rfl (Nat.le_of_ble_eq_true rfl) dL_law_1480 ⟨Nat.le_of_ble_eq_true rfl, Nat.le_of_ble_eq_true rfl⟩ ⟨rfl, rfl⟩ hz0 (fun _ => ?_)
  refine n_aload_n (i := 2) dL_law_1483 rfl rfl ?_
  refine n_aload_n (i := 0) dL_law_1484 rfl rfl ?_
  refine n_iload_n (i := 3) dL_law_1485 rfl rfl ?_
  refine n_iconst (1 : Int32) dL_law_1486 (by decide) ?_
  refine n_iadd dL_law_1487 ?_
  refine n_sld (law_in1 hi) dL_law_1488 ?_
  refine n_aload_n (i := 0) dL_law_1489 rfl rfl ?_
  refine n_iload_n (i := 3) dL_law_1490 rfl rfl ?_
  refine n_iconst (2 : Int32) dL_law_1491 (by decide) ?_
  refine n_iadd dL_law_1492 ?_
  refine n_sld (law_in2 hi) dL_law_1493 ?_
  refine p_callVi (As := [.int (yb_xs G (nI i + (1 : Int32)).toNatClampNeg), .int (yb_xs G (nI i + (2 : Int32)).toNatClampNeg)]) (t_X12_foretell h2) cv_L_181 (sh_176 _ _) rfl rfl (Nat.le_of_ble_eq_true rfl) dL_law_1494 ⟨Nat.le_of_ble_eq_true rfl, Nat.le_of_ble_eq_true rfl⟩ ⟨rfl, rfl⟩ hz0 (fun _ => ?_)
  refine n_icmp_eq 1723 dL_law_1497 (by decide) (fun _ => ?_) (fun c => absurd rfl c)
  exact hnext s2 X ce sl hI (Nat.le_succ _) (Nat.le_succ _) (Nat.le_add_right _ _)
set_option maxHeartbeats 4000000 in
set_option maxRecDepth 20000 in
theorem law_op_40 {Inv : yb_S → Prop} (E : ∀ (a1 a2 : Int32) (s : yb_S), Inv s → ∃ (r : Int32) (s1 s2 : yb_S), (f_X11_worst a1 a2 s = some r ∧ s1 = s) ∧ (f_X12_worst a1 a2 s1 = some r ∧ s2 = s1) ∧ Inv s2) {G : yb_G} {s : yb_S} {X : List (FieldType × Nat)} {ce sl i : Nat} (hs : Inv s) (hi : i + 6 ≤ yb_n G ∧ yb_n G ≤ 3072) (hX : 603 + X.length + 1 ≤ 100000) (hce : ce + 1 ≤ 600000) (hsl : sl + 24 ≤ 7302249) (hnext : ∀ (s' : yb_S) (X' : List (FieldType × Nat)) (ce' sl' : Nat), Inv s' → X'.length ≤ X.length + 1 → ce' ≤ ce + 1 → sl' ≤ sl + 24 → Rn G RL cL_law 4 ret false room_1 lawQ ce' sl' 1723 [some (.ref (yb_b G)), some (.ref (yb_ad G 0)), some (.ref (yb_ad G 176)), some (.int (nI i))] [] (yb_mk s' X')) : Rn G RL cL_law 4 ret false room_1 lawQ ce sl 1502 [some (.ref (yb_b G)), some (.ref (yb_ad G 0)), some (.ref (yb_ad G 176)), some (.int (nI i))] [] (yb_mk s X) := by
  have hz0 : ce ≤ room_1.cells ∧ sl ≤ room_1.slots := ⟨show ce ≤ 600000 by omega, show sl ≤ 7302249 by omega⟩
  obtain ⟨r, s1, s2, h1, h2, hI⟩ := E (yb_xs G (nI i + (1 : Int32)).toNatClampNeg) (yb_xs G (nI i + (2 : Int32)).toNatClampNeg) s hs
  obtain ⟨h2, rfl⟩ := h2
  obtain ⟨h1, rfl⟩ := h1
  refine n_aload_n (i := 1) dL_law_1502 rfl rfl ?_
  refine n_aload_n (i := 0) dL_law_1503 rfl rfl ?_
  refine n_iload_n (i := 3) dL_law_1504 rfl rfl ?_
  refine n_iconst (1 : Int32) dL_law_1505 (by decide) ?_
  refine n_iadd dL_law_1506 ?_
  refine n_sld (law_in1 hi) dL_law_1507 ?_
  refine n_aload_n (i := 0) dL_law_1508 rfl rfl ?_
  refine n_iload_n (i := 3) dL_law_1509 rfl rfl ?_
  refine n_iconst (2 : Int32) dL_law_1510 (by decide) ?_
  refine n_iadd dL_law_1511 ?_
  refine n_sld (law_in2 hi) dL_law_1512 ?_
  refine p_callVi (As := [.int (yb_xs G (nI i + (1 : Int32)).toNatClampNeg), .int (yb_xs G (nI i + (2 : Int32)).toNatClampNeg)]) (t_X11_worst h1) cv_L_182 (sh_0 _ _) rfl rfl (Nat.le_of_ble_eq_true rfl) dL_law_1513 ⟨Nat.le_of_ble_eq_true rfl, Nat.le_of_ble_eq_true rfl⟩ ⟨rfl, rfl⟩ hz0 (fun _ => ?_)
  refine n_aload_n (i := 2) dL_law_1516 rfl rfl ?_
  refine n_aload_n (i := 0) dL_law_1517 rfl rfl ?_
  refine n_iload_n (i := 3) dL_law_1518 rfl rfl ?_
  refine n_iconst (1 : Int32) dL_law_1519 (by decide) ?_
  refine n_iadd dL_law_1520 ?_
  refine n_sld (law_in1 hi) dL_law_1521 ?_
  refine n_aload_n (i := 0) dL_law_1522 rfl rfl ?_
  refine n_iload_n (i := 3) dL_law_1523 rfl rfl ?_
  refine n_iconst (2 : Int32) dL_law_1524 (by decide) ?_
  refine n_iadd dL_law_1525 ?_
  refine n_sld (law_in2 hi) dL_law_1526 ?_
  refine p_callVi (As := [.int (yb_xs G (nI i + (1 : Int32)).toNatClampNeg), .int (yb_xs G (nI i + (2 : Int32)).toNatClampNeg)]) (t_X12_worst h2) cv_L_185 (sh_176 _ _) rfl rfl (Nat.le_of_ble_eq_true rfl) dL_law_1527 ⟨Nat.le_of_ble_eq_true rfl, Nat.le_of_ble_eq_true rfl⟩ ⟨rfl, rfl⟩ hz0 (fun _ => ?_)
  refine n_icmp_eq 1723 dL_law_1530 (by decide) (fun _ => ?_) (fun c => absurd rfl c)
  exact hnext s2 X ce sl hI (Nat.le_succ _) (Nat.le_succ _) (Nat.le_add_right _ _)
set_option maxHeartbeats 4000000 in
set_option maxRecDepth 20000 in
theorem law_op_41 {Inv : yb_S → Prop} (E : ∀ (a1 : Int32) (nx : Nat) (s : yb_S), 603 ≤ nx → Inv s → ∃ (r : Int32) (s1 s2 : yb_S), f_X11_beside a1 s = some (r, s1) ∧ f_X12_beside a1 nx s1 = some (r, s2) ∧ Inv s2) {G : yb_G} {s : yb_S} {X : List (FieldType × Nat)} {ce sl i : Nat} (hs : Inv s) (hi : i + 6 ≤ yb_n G ∧ yb_n G ≤ 3072) (hX : 603 + X.length + 1 ≤ 100000) (hce : ce + 1 ≤ 600000) (hsl : sl + 24 ≤ 7302249) (hnext : ∀ (s' : yb_S) (X' : List (FieldType × Nat)) (ce' sl' : Nat), Inv s' → X'.length ≤ X.length + 1 → ce' ≤ ce + 1 → sl' ≤ sl + 24 → Rn G RL cL_law 4 ret false room_1 lawQ ce' sl' 1723 [some (.ref (yb_b G)), some (.ref (yb_ad G 0)), some (.ref (yb_ad G 176)), some (.int (nI i))] [] (yb_mk s' X')) : Rn G RL cL_law 4 ret false room_1 lawQ ce sl 1535 [some (.ref (yb_b G)), some (.ref (yb_ad G 0)), some (.ref (yb_ad G 176)), some (.int (nI i))] [] (yb_mk s X) := by
  have hz0 : ce ≤ room_1.cells ∧ sl ≤ room_1.slots := ⟨show ce ≤ 600000 by omega, show sl ≤ 7302249 by omega⟩
  obtain ⟨r, s1, s2, h1, h2, hI⟩ := E (yb_xs G (nI i + (1 : Int32)).toNatClampNeg) (603 + X.length) s (Nat.le_add_right _ _) hs
  refine n_aload_n (i := 1) dL_law_1535 rfl rfl ?_
  refine n_aload_n (i := 0) dL_law_1536 rfl rfl ?_
  refine n_iload_n (i := 3) dL_law_1537 rfl rfl ?_
  refine n_iconst (1 : Int32) dL_law_1538 (by decide) ?_
  refine n_iadd dL_law_1539 ?_
  refine n_sld (law_in1 hi) dL_law_1540 ?_
  refine p_callVi (As := [.int (yb_xs G (nI i + (1 : Int32)).toNatClampNeg)]) (t_X11_beside h1) cv_L_186 (sh_0 _ _) rfl rfl (Nat.le_of_ble_eq_true rfl) dL_law_1541 ⟨Nat.le_of_ble_eq_true rfl, Nat.le_of_ble_eq_true rfl⟩ ⟨rfl, rfl⟩ hz0 (fun _ => ?_)
  refine n_aload_n (i := 2) dL_law_1544 rfl rfl ?_
  refine n_aload_n (i := 0) dL_law_1545 rfl rfl ?_
  refine n_iload_n (i := 3) dL_law_1546 rfl rfl ?_
  refine n_iconst (1 : Int32) dL_law_1547 (by decide) ?_
  refine n_iadd dL_law_1548 ?_
  refine n_sld (law_in1 hi) dL_law_1549 ?_
  refine n_callV (As := [.int (yb_xs G (nI i + (1 : Int32)).toNatClampNeg)]) (t_X12_beside (X := X) (Lx := X.length + 1) rfl hX (Nat.le_refl _) h2) cv_L_189 (sh_176 _ _) rfl rfl (Nat.le_of_ble_eq_true rfl) dL_law_1550 ⟨Nat.le_of_ble_eq_true rfl, Nat.le_of_ble_eq_true rfl⟩ ⟨show ce + 1 ≤ 600000 by omega, show sl + 24 ≤ 7302249 by omega⟩ (fun v M hok hq => ?_)
  obtain ⟨rfl, X1, rfl, hX1⟩ := hq
  refine n_icmp_eq 1723 dL_law_1553 (by decide) (fun _ => ?_) (fun c => absurd rfl c)
  exact hnext s2 X1 (ce + 1) (sl + 24) hI hX1 (Nat.le_refl _) (by omega)
set_option maxHeartbeats 4000000 in
set_option maxRecDepth 20000 in
theorem law_op_42 {Inv : yb_S → Prop} (E : ∀ (a1 a2 a3 : Int32) (nx : Nat) (s : yb_S), 603 ≤ nx → Inv s → ∃ (r : Int32) (s1 s2 : yb_S), (f_X11_check a1 a2 a3 s = some r ∧ s1 = s) ∧ f_X12_check a1 a2 a3 nx s1 = some (r, s2) ∧ Inv s2) {G : yb_G} {s : yb_S} {X : List (FieldType × Nat)} {ce sl i : Nat} (hs : Inv s) (hi : i + 6 ≤ yb_n G ∧ yb_n G ≤ 3072) (hX : 603 + X.length + 1 ≤ 100000) (hce : ce + 1 ≤ 600000) (hsl : sl + 24 ≤ 7302249) (hnext : ∀ (s' : yb_S) (X' : List (FieldType × Nat)) (ce' sl' : Nat), Inv s' → X'.length ≤ X.length + 1 → ce' ≤ ce + 1 → sl' ≤ sl + 24 → Rn G RL cL_law 4 ret false room_1 lawQ ce' sl' 1723 [some (.ref (yb_b G)), some (.ref (yb_ad G 0)), some (.ref (yb_ad G 176)), some (.int (nI i))] [] (yb_mk s' X')) : Rn G RL cL_law 4 ret false room_1 lawQ ce sl 1558 [some (.ref (yb_b G)), some (.ref (yb_ad G 0)), some (.ref (yb_ad G 176)), some (.int (nI i))] [] (yb_mk s X) := by
  have hz0 : ce ≤ room_1.cells ∧ sl ≤ room_1.slots := ⟨show ce ≤ 600000 by omega, show sl ≤ 7302249 by omega⟩
  obtain ⟨r, s1, s2, h1, h2, hI⟩ := E (yb_xs G (nI i + (1 : Int32)).toNatClampNeg) (yb_xs G (nI i + (2 : Int32)).toNatClampNeg) (yb_xs G (nI i + (3 : Int32)).toNatClampNeg) (603 + X.length) s (Nat.le_add_right _ _) hs
  obtain ⟨h1, rfl⟩ := h1
  refine n_aload_n (i := 1) dL_law_1558 rfl rfl ?_
  refine n_aload_n (i := 0) dL_law_1559 rfl rfl ?_
  refine n_iload_n (i := 3) dL_law_1560 rfl rfl ?_
  refine n_iconst (1 : Int32) dL_law_1561 (by decide) ?_
  refine n_iadd dL_law_1562 ?_
  refine n_sld (law_in1 hi) dL_law_1563 ?_
  refine n_aload_n (i := 0) dL_law_1564 rfl rfl ?_
  refine n_iload_n (i := 3) dL_law_1565 rfl rfl ?_
  refine n_iconst (2 : Int32) dL_law_1566 (by decide) ?_
  refine n_iadd dL_law_1567 ?_
  refine n_sld (law_in2 hi) dL_law_1568 ?_
  refine n_aload_n (i := 0) dL_law_1569 rfl rfl ?_
  refine n_iload_n (i := 3) dL_law_1570 rfl rfl ?_
  refine n_iconst (3 : Int32) dL_law_1571 (by decide) ?_
  refine n_iadd dL_law_1572 ?_
  refine n_sld (law_in3 hi) dL_law_1573 ?_
  refine p_callVi (As := [.int (yb_xs G (nI i + (1 : Int32)).toNatClampNeg), .int (yb_xs G (nI i + (2 : Int32)).toNatClampNeg), .int (yb_xs G (nI i + (3 : Int32)).toNatClampNeg)]) (t_X11_check h1) cv_L_190 (sh_0 _ _) rfl rfl (Nat.le_of_ble_eq_true rfl) dL_law_1574 ⟨Nat.le_of_ble_eq_true rfl, Nat.le_of_ble_eq_true rfl⟩ ⟨rfl, rfl⟩ hz0 (fun _ => ?_)
  refine n_aload_n (i := 2) dL_law_1577 rfl rfl ?_
  refine n_aload_n (i := 0) dL_law_1578 rfl rfl ?_
  refine n_iload_n (i := 3) dL_law_1579 rfl rfl ?_
  refine n_iconst (1 : Int32) dL_law_1580 (by decide) ?_
  refine n_iadd dL_law_1581 ?_
  refine n_sld (law_in1 hi) dL_law_1582 ?_
  refine n_aload_n (i := 0) dL_law_1583 rfl rfl ?_
  refine n_iload_n (i := 3) dL_law_1584 rfl rfl ?_
  refine n_iconst (2 : Int32) dL_law_1585 (by decide) ?_
  refine n_iadd dL_law_1586 ?_
  refine n_sld (law_in2 hi) dL_law_1587 ?_
  refine n_aload_n (i := 0) dL_law_1588 rfl rfl ?_
  refine n_iload_n (i := 3) dL_law_1589 rfl rfl ?_
  refine n_iconst (3 : Int32) dL_law_1590 (by decide) ?_
  refine n_iadd dL_law_1591 ?_
  refine n_sld (law_in3 hi) dL_law_1592 ?_
  refine n_callV (As := [.int (yb_xs G (nI i + (1 : Int32)).toNatClampNeg), .int (yb_xs G (nI i + (2 : Int32)).toNatClampNeg), .int (yb_xs G (nI i + (3 : Int32)).toNatClampNeg)]) (t_X12_check (X := X) (Lx := X.length + 1) rfl hX (Nat.le_refl _) h2) cv_L_193 (sh_176 _ _) rfl rfl (Nat.le_of_ble_eq_true rfl) dL_law_1593 ⟨Nat.le_of_ble_eq_true rfl, Nat.le_of_ble_eq_true rfl⟩ ⟨show ce + 1 ≤ 600000 by omega, show sl + 5 ≤ 7302249 by omega⟩ (fun v M hok hq => ?_)
  obtain ⟨rfl, X1, rfl, hX1⟩ := hq
  refine n_icmp_eq 1723 dL_law_1596 (by decide) (fun _ => ?_) (fun c => absurd rfl c)
  exact hnext s2 X1 (ce + 1) (sl + 5) hI hX1 (Nat.le_refl _) (by omega)
set_option maxHeartbeats 4000000 in
set_option maxRecDepth 20000 in
theorem law_op_43 {Inv : yb_S → Prop} (E : ∀ (a1 a2 : Int32) (s : yb_S), Inv s → ∃ (r : Int32) (s1 s2 : yb_S), (f_X11_ended a1 a2 s = some r ∧ s1 = s) ∧ (f_X12_ended a1 a2 s1 = some r ∧ s2 = s1) ∧ Inv s2) {G : yb_G} {s : yb_S} {X : List (FieldType × Nat)} {ce sl i : Nat} (hs : Inv s) (hi : i + 6 ≤ yb_n G ∧ yb_n G ≤ 3072) (hX : 603 + X.length + 1 ≤ 100000) (hce : ce + 1 ≤ 600000) (hsl : sl + 24 ≤ 7302249) (hnext : ∀ (s' : yb_S) (X' : List (FieldType × Nat)) (ce' sl' : Nat), Inv s' → X'.length ≤ X.length + 1 → ce' ≤ ce + 1 → sl' ≤ sl + 24 → Rn G RL cL_law 4 ret false room_1 lawQ ce' sl' 1723 [some (.ref (yb_b G)), some (.ref (yb_ad G 0)), some (.ref (yb_ad G 176)), some (.int (nI i))] [] (yb_mk s' X')) : Rn G RL cL_law 4 ret false room_1 lawQ ce sl 1601 [some (.ref (yb_b G)), some (.ref (yb_ad G 0)), some (.ref (yb_ad G 176)), some (.int (nI i))] [] (yb_mk s X) := by
  have hz0 : ce ≤ room_1.cells ∧ sl ≤ room_1.slots := ⟨show ce ≤ 600000 by omega, show sl ≤ 7302249 by omega⟩
  obtain ⟨r, s1, s2, h1, h2, hI⟩ := E (yb_xs G (nI i + (1 : Int32)).toNatClampNeg) (yb_xs G (nI i + (2 : Int32)).toNatClampNeg) s hs
  obtain ⟨h2, rfl⟩ := h2
  obtain ⟨h1, rfl⟩ := h1
  refine n_aload_n (i := 1) dL_law_1601 rfl rfl ?_
  refine n_aload_n (i := 0) dL_law_1602 rfl rfl ?_
  refine n_iload_n (i := 3) dL_law_1603 rfl rfl ?_
  refine n_iconst (1 : Int32) dL_law_1604 (by decide) ?_
  refine n_iadd dL_law_1605 ?_
  refine n_sld (law_in1 hi) dL_law_1606 ?_
  refine n_aload_n (i := 0) dL_law_1607 rfl rfl ?_
  refine n_iload_n (i := 3) dL_law_1608 rfl rfl ?_
  refine n_iconst (2 : Int32) dL_law_1609 (by decide) ?_
  refine n_iadd dL_law_1610 ?_
  refine n_sld (law_in2 hi) dL_law_1611 ?_
  refine p_callVi (As := [.int (yb_xs G (nI i + (1 : Int32)).toNatClampNeg), .int (yb_xs G (nI i + (2 : Int32)).toNatClampNeg)]) (t_X11_ended h1) cv_L_194 (sh_0 _ _) rfl rfl (Nat.le_of_ble_eq_true rfl) dL_law_1612 ⟨Nat.le_of_ble_eq_true rfl, Nat.le_of_ble_eq_true rfl⟩ ⟨rfl, rfl⟩ hz0 (fun _ => ?_)
  refine n_aload_n (i := 2) dL_law_1615 rfl rfl ?_
  refine n_aload_n (i := 0) dL_law_1616 rfl rfl ?_
  refine n_iload_n (i := 3) dL_law_1617 rfl rfl ?_
  refine n_iconst (1 : Int32) dL_law_1618 (by decide) ?_
  refine n_iadd dL_law_1619 ?_
  refine n_sld (law_in1 hi) dL_law_1620 ?_
  refine n_aload_n (i := 0) dL_law_1621 rfl rfl ?_
  refine n_iload_n (i := 3) dL_law_1622 rfl rfl ?_
  refine n_iconst (2 : Int32) dL_law_1623 (by decide) ?_
  refine n_iadd dL_law_1624 ?_
  refine n_sld (law_in2 hi) dL_law_1625 ?_
  refine p_callVi (As := [.int (yb_xs G (nI i + (1 : Int32)).toNatClampNeg), .int (yb_xs G (nI i + (2 : Int32)).toNatClampNeg)]) (t_X12_ended h2) cv_L_197 (sh_176 _ _) rfl rfl (Nat.le_of_ble_eq_true rfl) dL_law_1626 ⟨Nat.le_of_ble_eq_true rfl, Nat.le_of_ble_eq_true rfl⟩ ⟨rfl, rfl⟩ hz0 (fun _ => ?_)
  refine n_icmp_eq 1723 dL_law_1629 (by decide) (fun _ => ?_) (fun c => absurd rfl c)
  exact hnext s2 X ce sl hI (Nat.le_succ _) (Nat.le_succ _) (Nat.le_add_right _ _)
set_option maxHeartbeats 4000000 in
set_option maxRecDepth 20000 in
theorem law_op_44 {Inv : yb_S → Prop} (E : ∀ (a1 a2 : Int32) (s : yb_S), Inv s → ∃ (r : Int32) (s1 s2 : yb_S), (f_X11_told a1 a2 s = some r ∧ s1 = s) ∧ (f_X12_told a1 a2 s1 = some r ∧ s2 = s1) ∧ Inv s2) {G : yb_G} {s : yb_S} {X : List (FieldType × Nat)} {ce sl i : Nat} (hs : Inv s) (hi : i + 6 ≤ yb_n G ∧ yb_n G ≤ 3072) (hX : 603 + X.length + 1 ≤ 100000) (hce : ce + 1 ≤ 600000) (hsl : sl + 24 ≤ 7302249) (hnext : ∀ (s' : yb_S) (X' : List (FieldType × Nat)) (ce' sl' : Nat), Inv s' → X'.length ≤ X.length + 1 → ce' ≤ ce + 1 → sl' ≤ sl + 24 → Rn G RL cL_law 4 ret false room_1 lawQ ce' sl' 1723 [some (.ref (yb_b G)), some (.ref (yb_ad G 0)), some (.ref (yb_ad G 176)), some (.int (nI i))] [] (yb_mk s' X')) : Rn G RL cL_law 4 ret false room_1 lawQ ce sl 1634 [some (.ref (yb_b G)), some (.ref (yb_ad G 0)), some (.ref (yb_ad G 176)), some (.int (nI i))] [] (yb_mk s X) := by
  have hz0 : ce ≤ room_1.cells ∧ sl ≤ room_1.slots := ⟨show ce ≤ 600000 by omega, show sl ≤ 7302249 by omega⟩
  obtain ⟨r, s1, s2, h1, h2, hI⟩ := E (yb_xs G (nI i + (1 : Int32)).toNatClampNeg) (yb_xs G (nI i + (2 : Int32)).toNatClampNeg) s hs
  obtain ⟨h2, rfl⟩ := h2
  obtain ⟨h1, rfl⟩ := h1
  refine n_aload_n (i := 1) dL_law_1634 rfl rfl ?_
  refine n_aload_n (i := 0) dL_law_1635 rfl rfl ?_
  refine n_iload_n (i := 3) dL_law_1636 rfl rfl ?_
  refine n_iconst (1 : Int32) dL_law_1637 (by decide) ?_
  refine n_iadd dL_law_1638 ?_
  refine n_sld (law_in1 hi) dL_law_1639 ?_
  refine n_aload_n (i := 0) dL_law_1640 rfl rfl ?_
  refine n_iload_n (i := 3) dL_law_1641 rfl rfl ?_
  refine n_iconst (2 : Int32) dL_law_1642 (by decide) ?_
  refine n_iadd dL_law_1643 ?_
  refine n_sld (law_in2 hi) dL_law_1644 ?_
  refine p_callVi (As := [.int (yb_xs G (nI i + (1 : Int32)).toNatClampNeg), .int (yb_xs G (nI i + (2 : Int32)).toNatClampNeg)]) (t_X11_told h1) cv_L_198 (sh_0 _ _) rfl rfl (Nat.le_of_ble_eq_true rfl) dL_law_1645 ⟨Nat.le_of_ble_eq_true rfl, Nat.le_of_ble_eq_true rfl⟩ ⟨rfl, rfl⟩ hz0 (fun _ => ?_)
  refine n_aload_n (i := 2) dL_law_1648 rfl rfl ?_
  refine n_aload_n (i := 0) dL_law_1649 rfl rfl ?_
  refine n_iload_n (i := 3) dL_law_1650 rfl rfl ?_
  refine n_iconst (1 : Int32) dL_law_1651 (by decide) ?_
  refine n_iadd dL_law_1652 ?_
  refine n_sld (law_in1 hi) dL_law_1653 ?_
  refine n_aload_n (i := 0) dL_law_1654 rfl rfl ?_
  refine n_iload_n (i := 3) dL_law_1655 rfl rfl ?_
  refine n_iconst (2 : Int32) dL_law_1656 (by decide) ?_
  refine n_iadd dL_law_1657 ?_
  refine n_sld (law_in2 hi) dL_law_1658 ?_
  refine p_callVi (As := [.int (yb_xs G (nI i + (1 : Int32)).toNatClampNeg), .int (yb_xs G (nI i + (2 : Int32)).toNatClampNeg)]) (t_X12_told h2) cv_L_201 (sh_176 _ _) rfl rfl (Nat.le_of_ble_eq_true rfl) dL_law_1659 ⟨Nat.le_of_ble_eq_true rfl, Nat.le_of_ble_eq_true rfl⟩ ⟨rfl, rfl⟩ hz0 (fun _ => ?_)
  refine n_icmp_eq 1723 dL_law_1662 (by decide) (fun _ => ?_) (fun c => absurd rfl c)
  exact hnext s2 X ce sl hI (Nat.le_succ _) (Nat.le_succ _) (Nat.le_add_right _ _)
set_option maxHeartbeats 4000000 in
set_option maxRecDepth 20000 in
theorem law_op_45 {Inv : yb_S → Prop} (E : ∀ (a1 a2 : Int32) (s : yb_S), Inv s → ∃ (r : Int32) (s1 s2 : yb_S), f_X11_is a1 a2 s = some (r, s1) ∧ f_X12_is a1 a2 s1 = some (r, s2) ∧ Inv s2) {G : yb_G} {s : yb_S} {X : List (FieldType × Nat)} {ce sl i : Nat} (hs : Inv s) (hi : i + 6 ≤ yb_n G ∧ yb_n G ≤ 3072) (hX : 603 + X.length + 1 ≤ 100000) (hce : ce + 1 ≤ 600000) (hsl : sl + 24 ≤ 7302249) (hnext : ∀ (s' : yb_S) (X' : List (FieldType × Nat)) (ce' sl' : Nat), Inv s' → X'.length ≤ X.length + 1 → ce' ≤ ce + 1 → sl' ≤ sl + 24 → Rn G RL cL_law 4 ret false room_1 lawQ ce' sl' 1723 [some (.ref (yb_b G)), some (.ref (yb_ad G 0)), some (.ref (yb_ad G 176)), some (.int (nI i))] [] (yb_mk s' X')) : Rn G RL cL_law 4 ret false room_1 lawQ ce sl 1667 [some (.ref (yb_b G)), some (.ref (yb_ad G 0)), some (.ref (yb_ad G 176)), some (.int (nI i))] [] (yb_mk s X) := by
  have hz0 : ce ≤ room_1.cells ∧ sl ≤ room_1.slots := ⟨show ce ≤ 600000 by omega, show sl ≤ 7302249 by omega⟩
  obtain ⟨r, s1, s2, h1, h2, hI⟩ := E (yb_xs G (nI i + (1 : Int32)).toNatClampNeg) (yb_xs G (nI i + (2 : Int32)).toNatClampNeg) s hs
  refine n_aload_n (i := 1) dL_law_1667 rfl rfl ?_
  refine n_aload_n (i := 0) dL_law_1668 rfl rfl ?_
  refine n_iload_n (i := 3) dL_law_1669 rfl rfl ?_
  refine n_iconst (1 : Int32) dL_law_1670 (by decide) ?_
  refine n_iadd dL_law_1671 ?_
  refine n_sld (law_in1 hi) dL_law_1672 ?_
  refine n_aload_n (i := 0) dL_law_1673 rfl rfl ?_
  refine n_iload_n (i := 3) dL_law_1674 rfl rfl ?_
  refine n_iconst (2 : Int32) dL_law_1675 (by decide) ?_
  refine n_iadd dL_law_1676 ?_
  refine n_sld (law_in2 hi) dL_law_1677 ?_
  refine p_callVi (As := [.int (yb_xs G (nI i + (1 : Int32)).toNatClampNeg), .int (yb_xs G (nI i + (2 : Int32)).toNatClampNeg)]) (t_X11_is h1) cv_L_202 (sh_0 _ _) rfl rfl (Nat.le_of_ble_eq_true rfl) dL_law_1678 ⟨Nat.le_of_ble_eq_true rfl, Nat.le_of_ble_eq_true rfl⟩ ⟨rfl, rfl⟩ hz0 (fun _ => ?_)
  refine n_aload_n (i := 2) dL_law_1681 rfl rfl ?_
  refine n_aload_n (i := 0) dL_law_1682 rfl rfl ?_
  refine n_iload_n (i := 3) dL_law_1683 rfl rfl ?_
  refine n_iconst (1 : Int32) dL_law_1684 (by decide) ?_
  refine n_iadd dL_law_1685 ?_
  refine n_sld (law_in1 hi) dL_law_1686 ?_
  refine n_aload_n (i := 0) dL_law_1687 rfl rfl ?_
  refine n_iload_n (i := 3) dL_law_1688 rfl rfl ?_
  refine n_iconst (2 : Int32) dL_law_1689 (by decide) ?_
  refine n_iadd dL_law_1690 ?_
  refine n_sld (law_in2 hi) dL_law_1691 ?_
  refine p_callVi (As := [.int (yb_xs G (nI i + (1 : Int32)).toNatClampNeg), .int (yb_xs G (nI i + (2 : Int32)).toNatClampNeg)]) (t_X12_is h2) cv_L_205 (sh_176 _ _) rfl rfl (Nat.le_of_ble_eq_true rfl) dL_law_1692 ⟨Nat.le_of_ble_eq_true rfl, Nat.le_of_ble_eq_true rfl⟩ ⟨rfl, rfl⟩ hz0 (fun _ => ?_)
  refine n_icmp_eq 1723 dL_law_1695 (by decide) (fun _ => ?_) (fun c => absurd rfl c)
  exact hnext s2 X ce sl hI (Nat.le_succ _) (Nat.le_succ _) (Nat.le_add_right _ _)
set_option maxHeartbeats 4000000 in
set_option maxRecDepth 20000 in
theorem law_op_46 {Inv : yb_S → Prop} (E : ∀ (a1 : Int32) (s : yb_S), Inv s → ∃ (r : Int32) (s1 s2 : yb_S), (f_X11_count a1 s = some r ∧ s1 = s) ∧ (f_X12_count a1 s1 = some r ∧ s2 = s1) ∧ Inv s2) {G : yb_G} {s : yb_S} {X : List (FieldType × Nat)} {ce sl i : Nat} (hs : Inv s) (hi : i + 6 ≤ yb_n G ∧ yb_n G ≤ 3072) (hX : 603 + X.length + 1 ≤ 100000) (hce : ce + 1 ≤ 600000) (hsl : sl + 24 ≤ 7302249) (hnext : ∀ (s' : yb_S) (X' : List (FieldType × Nat)) (ce' sl' : Nat), Inv s' → X'.length ≤ X.length + 1 → ce' ≤ ce + 1 → sl' ≤ sl + 24 → Rn G RL cL_law 4 ret false room_1 lawQ ce' sl' 1723 [some (.ref (yb_b G)), some (.ref (yb_ad G 0)), some (.ref (yb_ad G 176)), some (.int (nI i))] [] (yb_mk s' X')) : Rn G RL cL_law 4 ret false room_1 lawQ ce sl 1700 [some (.ref (yb_b G)), some (.ref (yb_ad G 0)), some (.ref (yb_ad G 176)), some (.int (nI i))] [] (yb_mk s X) := by
  have hz0 : ce ≤ room_1.cells ∧ sl ≤ room_1.slots := ⟨show ce ≤ 600000 by omega, show sl ≤ 7302249 by omega⟩
  obtain ⟨r, s1, s2, h1, h2, hI⟩ := E (yb_xs G (nI i + (1 : Int32)).toNatClampNeg) s hs
  obtain ⟨h2, rfl⟩ := h2
  obtain ⟨h1, rfl⟩ := h1
  refine n_aload_n (i := 1) dL_law_1700 rfl rfl ?_
  refine n_aload_n (i := 0) dL_law_1701 rfl rfl ?_
  refine n_iload_n (i := 3) dL_law_1702 rfl rfl ?_
  refine n_iconst (1 : Int32) dL_law_1703 (by decide) ?_
  refine n_iadd dL_law_1704 ?_
  refine n_sld (law_in1 hi) dL_law_1705 ?_
  refine p_callVi (As := [.int (yb_xs G (nI i + (1 : Int32)).toNatClampNeg)]) (t_X11_count h1) cv_L_206 (sh_0 _ _) rfl rfl (Nat.le_of_ble_eq_true rfl) dL_law_1706 ⟨Nat.le_of_ble_eq_true rfl, Nat.le_of_ble_eq_true rfl⟩ ⟨rfl, rfl⟩ hz0 (fun _ => ?_)
  refine n_aload_n (i := 2) dL_law_1709 rfl rfl ?_
  refine n_aload_n (i := 0) dL_law_1710 rfl rfl ?_
  refine n_iload_n (i := 3) dL_law_1711 rfl rfl ?_
  refine n_iconst (1 : Int32) dL_law_1712 (by decide) ?_
  refine n_iadd dL_law_1713 ?_
  refine n_sld (law_in1 hi) dL_law_1714 ?_
  refine p_callVi (As := [.int (yb_xs G (nI i + (1 : Int32)).toNatClampNeg)]) (t_X12_count h2) cv_L_209 (sh_176 _ _) rfl rfl (Nat.le_of_ble_eq_true rfl) dL_law_1715 ⟨Nat.le_of_ble_eq_true rfl, Nat.le_of_ble_eq_true rfl⟩ ⟨rfl, rfl⟩ hz0 (fun _ => ?_)
  refine n_icmp_eq 1723 dL_law_1718 (by decide) (fun _ => ?_) (fun c => absurd rfl c)
  exact hnext s2 X ce sl hI (Nat.le_succ _) (Nat.le_succ _) (Nat.le_add_right _ _)
set_option maxHeartbeats 8000000 in
set_option maxRecDepth 40000 in
theorem law_loop_open {Inv : yb_S → Prop} (E0 : ∀ (a1 a2 a3 : Int32) (s : yb_S), Inv s → ∃ (r : Int32) (s1 s2 : yb_S), f_X11_town a1 a2 a3 s = some (r, s1) ∧ f_X12_town a1 a2 a3 s1 = some (r, s2) ∧ Inv s2) (E1 : ∀ (a1 a2 : Int32) (s : yb_S), (a2 = 0 ∨ a2 = 1) → Inv s → ∃ (r : Int32) (s1 s2 : yb_S), f_X11_full a1 a2 s = some (r, s1) ∧ f_X12_full a1 a2 s1 = some (r, s2) ∧ Inv s2) (E2 : ∀ (a1 a2 a3 : Int32) (s : yb_S), Inv s → ∃ (r : Int32) (s1 s2 : yb_S), f_X11_home a1 a2 a3 s = some (r, s1) ∧ f_X12_home a1 a2 a3 s1 = some (r, s2) ∧ Inv s2) (E3 : ∀ (a1 : Int32) (s : yb_S), Inv s → ∃ (r : Int32) (s1 s2 : yb_S), f_X11_beds a1 s = some (r, s1) ∧ f_X12_beds a1 s1 = some (r, s2) ∧ Inv s2) (E4 : ∀ (a1 a2 : Int32) (s : yb_S), Inv s → ∃ (r : Int32) (s1 s2 : yb_S), f_X11_family a1 a2 s = some (r, s1) ∧ f_X12_family a1 a2 s1 = some (r, s2) ∧ Inv s2) (E5 : ∀ (a1 a2 : Int32) (s : yb_S), Inv s → ∃ (r : Int32) (s1 s2 : yb_S), f_X11_wish a1 a2 s = some (r, s1) ∧ f_X12_wish a1 a2 s1 = some (r, s2) ∧ Inv s2) (E6 : ∀ (a1 a2 a3 : Int32) (s : yb_S), Inv s → ∃ (r : Int32) (s1 s2 : yb_S), f_X11_apart a1 a2 a3 s = some (r, s1) ∧ f_X12_apart a1 a2 a3 s1 = some (r, s2) ∧ Inv s2) (E7 : ∀ (a1 a2 a3 a4 a5 : Int32) (s : yb_S), Inv s → ∃ (r : Int32) (s1 s2 : yb_S), f_X11_record a1 a2 a3 a4 a5 s = some (r, s1) ∧ f_X12_record a1 a2 a3 a4 a5 s1 = some (r, s2) ∧ Inv s2) (E8 : ∀ (a1 a2 : Int32) (s : yb_S), Inv s → ∃ (r : Int32) (s1 s2 : yb_S), (f_X11_alike a1 a2 s = some r ∧ s1 = s) ∧ (f_X12_alike a1 a2 s1 = some r ∧ s2 = s1) ∧ Inv s2) (E9 : ∀ (a1 : Int32) (s : yb_S), Inv s → ∃ (r : Int32) (s1 s2 : yb_S), (f_X11_match a1 s = some r ∧ s1 = s) ∧ (f_X12_match a1 s1 = some r ∧ s2 = s1) ∧ Inv s2) (E10 : ∀ (a1 : Int32) (s : yb_S), Inv s → ∃ (r : Int32) (s1 s2 : yb_S), (f_X11_rivals a1 s = some r ∧ s1 = s) ∧ (f_X12_rivals a1 s1 = some r ∧ s2 = s1) ∧ Inv s2) (E11 : ∀ (a1 a2 : Int32) (s : yb_S), Inv s → ∃ (r : Int32) (s1 s2 : yb_S), f_X11_join a1 a2 s = some (r, s1) ∧ f_X12_join a1 a2 s1 = some (r, s2) ∧ Inv s2) (E12 : ∀ (a1 : Int32) (s : yb_S), Inv s → ∃ (r : Int32) (s1 s2 : yb_S), f_X11_part a1 s = some (r, s1) ∧ f_X12_part a1 s1 = some (r, s2) ∧ Inv s2) (E13 : ∀ (a1 a2 : Int32) (s : yb_S), Inv s → ∃ (r : Int32) (s1 s2 : yb_S), (f_X11_same a1 a2 s = some r ∧ s1 = s) ∧ (f_X12_same a1 a2 s1 = some r ∧ s2 = s1) ∧ Inv s2) (E14 : ∀ (a1 a2 a3 : Int32) (s : yb_S), Inv s → ∃ (r : Int32) (s1 s2 : yb_S), f_X11_seek a1 a2 a3 s = some (r, s1) ∧ f_X12_seek a1 a2 a3 s1 = some (r, s2) ∧ Inv s2) (E15 : ∀ (a1 a2 : Int32) (s : yb_S), Inv s → ∃ (r : Int32) (s1 s2 : yb_S), (f_X11_finds a1 a2 s = some r ∧ s1 = s) ∧ f_X12_finds a1 a2 s1 = some (r, s2) ∧ Inv s2) (E16 : ∀ (a1 : Int32) (s : yb_S), Inv s → ∃ (r : Int32) (s1 s2 : yb_S), (f_X11_kin a1 s = some r ∧ s1 = s) ∧ f_X12_kin a1 s1 = some (r, s2) ∧ Inv s2) (E17 : ∀ (a1 : Int32) (s : yb_S), Inv s → ∃ (r : Int32) (s1 s2 : yb_S), (f_X11_mutual a1 s = some r ∧ s1 = s) ∧ f_X12_mutual a1 s1 = some (r, s2) ∧ Inv s2) (E18 : ∀ (a1 a2 a3 a4 a5 : Int32) (s : yb_S), Inv s → ∃ (r : Int32) (s1 s2 : yb_S), f_X11_feed a1 a2 a3 a4 a5 s = some (r, s1) ∧ f_X12_feed a1 a2 a3 a4 a5 s1 = some (r, s2) ∧ Inv s2) (E19 : ∀ (a1 : Int32) (s : yb_S), Inv s → ∃ (r : Int32) (s1 s2 : yb_S), f_X11_end a1 s = some (r, s1) ∧ f_X12_end a1 s1 = some (r, s2) ∧ Inv s2) (E20 : ∀ (s : yb_S), Inv s → ∃ (r : Int32) (s1 s2 : yb_S), f_X11_fault s = some (r, s1) ∧ f_X12_fault s1 = some (r, s2) ∧ Inv s2) (E21 : ∀ (s : yb_S), Inv s → ∃ (r : Int32) (s1 s2 : yb_S), f_X11_sheet s = some (r, s1) ∧ f_X12_sheet s1 = some (r, s2) ∧ Inv s2) (E22 : ∀ (a1 : Int32) (s : yb_S), Inv s → ∃ (r : Int32) (s1 s2 : yb_S), f_X11_strike a1 s = some (r, s1) ∧ f_X12_strike a1 s1 = some (r, s2) ∧ Inv s2) (E23 : ∀ (a1 a2 : Int32) (s : yb_S), Inv s → ∃ (r : Int32) (s1 s2 : yb_S), (f_X11_why a1 a2 s = some r ∧ s1 = s) ∧ (f_X12_why a1 a2 s1 = some r ∧ s2 = s1) ∧ Inv s2) (E24 : ∀ (a1 a2 : Int32) (s : yb_S), Inv s → ∃ (r : Int32) (s1 s2 : yb_S), f_X11_rank a1 a2 s = some (r, s1) ∧ f_X12_rank a1 a2 s1 = some (r, s2) ∧ Inv s2) (E25 : ∀ (a1 : Int32) (s : yb_S), Inv s → ∃ (r : Int32) (s1 s2 : yb_S), f_X11_lack a1 s = some (r, s1) ∧ f_X12_lack a1 s1 = some (r, s2) ∧ Inv s2) (E26 : ∀ (a1 a2 : Int32) (s : yb_S), Inv s → ∃ (r : Int32) (s1 s2 : yb_S), f_X11_bar a1 a2 s = some (r, s1) ∧ f_X12_bar a1 a2 s1 = some (r, s2) ∧ Inv s2) (E27 : ∀ (s : yb_S), Inv s → ∃ (r : Int32) (s1 s2 : yb_S), f_X11_place s = some (r, s1) ∧ f_X12_place s1 = some (r, s2) ∧ Inv s2) (E28 : ∀ (a1 a2 : Int32) (s : yb_S), Inv s → ∃ (r : Int32) (s1 s2 : yb_S), (f_X11_passed a1 a2 s = some r ∧ s1 = s) ∧ (f_X12_passed a1 a2 s1 = some r ∧ s2 = s1) ∧ Inv s2) (E29 : ∀ (a1 a2 : Int32) (s : yb_S), Inv s → ∃ (r : Int32) (s1 s2 : yb_S), f_X11_move a1 a2 s = some (r, s1) ∧ f_X12_move a1 a2 s1 = some (r, s2) ∧ Inv s2) (E30 : ∀ (a1 : Int32) (s : yb_S), Inv s → ∃ (r : Int32) (s1 s2 : yb_S), f_X11_leave a1 s = some (r, s1) ∧ f_X12_leave a1 s1 = some (r, s2) ∧ Inv s2) (E31 : ∀ (a1 : Int32) (s : yb_S), Inv s → ∃ (r : Int32) (s1 s2 : yb_S), f_X11_go a1 s = some (r, s1) ∧ f_X12_go a1 s1 = some (r, s2) ∧ Inv s2) (E32 : ∀ (a1 a2 : Int32) (s : yb_S), Inv s → ∃ (r : Int32) (s1 s2 : yb_S), (f_X11_night a1 a2 s = some r ∧ s1 = s) ∧ (f_X12_night a1 a2 s1 = some r ∧ s2 = s1) ∧ Inv s2) (E33 : ∀ (a1 a2 : Int32) (s : yb_S), Inv s → ∃ (r : Int32) (s1 s2 : yb_S), (f_X11_lead a1 a2 s = some r ∧ s1 = s) ∧ (f_X12_lead a1 a2 s1 = some r ∧ s2 = s1) ∧ Inv s2) (E34 : ∀ (s : yb_S), Inv s → ∃ (r : Int32) (s1 s2 : yb_S), f_X11_beyond s = some (r, s1) ∧ f_X12_beyond s1 = some (r, s2) ∧ Inv s2) (E35 : ∀ (a1 : Int32) (s : yb_S), Inv s → ∃ (r : Int32) (s1 s2 : yb_S), f_X11_ends a1 s = some (r, s1) ∧ f_X12_ends a1 s1 = some (r, s2) ∧ Inv s2) (E36 : ∀ (a1 a2 a3 : Int32) (s : yb_S), Inv s → ∃ (r : Int32) (s1 s2 : yb_S), f_X11_show a1 a2 a3 s = some (r, s1) ∧ f_X12_show a1 a2 a3 s1 = some (r, s2) ∧ Inv s2) (E37 : ∀ (a1 a2 a3 : Int32) (s : yb_S), Inv s → ∃ (r : Int32) (s1 s2 : yb_S), f_X11_best a1 a2 a3 s = some (r, s1) ∧ f_X12_best a1 a2 a3 s1 = some (r, s2) ∧ Inv s2) (E38 : ∀ (a1 a2 a3 : Int32) (s : yb_S), Inv s → ∃ (r : Int32) (s1 s2 : yb_S), f_X11_boat a1 a2 a3 s = some (r, s1) ∧ f_X12_boat a1 a2 a3 s1 = some (r, s2) ∧ Inv s2) (E39 : ∀ (a1 a2 : Int32) (s : yb_S), Inv s → ∃ (r : Int32) (s1 s2 : yb_S), f_X11_foretell a1 a2 s = some (r, s1) ∧ f_X12_foretell a1 a2 s1 = some (r, s2) ∧ Inv s2) (E40 : ∀ (a1 a2 : Int32) (s : yb_S), Inv s → ∃ (r : Int32) (s1 s2 : yb_S), (f_X11_worst a1 a2 s = some r ∧ s1 = s) ∧ (f_X12_worst a1 a2 s1 = some r ∧ s2 = s1) ∧ Inv s2) (E41 : ∀ (a1 : Int32) (nx : Nat) (s : yb_S), 603 ≤ nx → Inv s → ∃ (r : Int32) (s1 s2 : yb_S), f_X11_beside a1 s = some (r, s1) ∧ f_X12_beside a1 nx s1 = some (r, s2) ∧ Inv s2) (E42 : ∀ (a1 a2 a3 : Int32) (nx : Nat) (s : yb_S), 603 ≤ nx → Inv s → ∃ (r : Int32) (s1 s2 : yb_S), (f_X11_check a1 a2 a3 s = some r ∧ s1 = s) ∧ f_X12_check a1 a2 a3 nx s1 = some (r, s2) ∧ Inv s2) (E43 : ∀ (a1 a2 : Int32) (s : yb_S), Inv s → ∃ (r : Int32) (s1 s2 : yb_S), (f_X11_ended a1 a2 s = some r ∧ s1 = s) ∧ (f_X12_ended a1 a2 s1 = some r ∧ s2 = s1) ∧ Inv s2) (E44 : ∀ (a1 a2 : Int32) (s : yb_S), Inv s → ∃ (r : Int32) (s1 s2 : yb_S), (f_X11_told a1 a2 s = some r ∧ s1 = s) ∧ (f_X12_told a1 a2 s1 = some r ∧ s2 = s1) ∧ Inv s2) (E45 : ∀ (a1 a2 : Int32) (s : yb_S), Inv s → ∃ (r : Int32) (s1 s2 : yb_S), f_X11_is a1 a2 s = some (r, s1) ∧ f_X12_is a1 a2 s1 = some (r, s2) ∧ Inv s2) (E46 : ∀ (a1 : Int32) (s : yb_S), Inv s → ∃ (r : Int32) (s1 s2 : yb_S), (f_X11_count a1 s = some r ∧ s1 = s) ∧ (f_X12_count a1 s1 = some r ∧ s2 = s1) ∧ Inv s2) {G : yb_G} (hN : yb_n G ≤ 3072) : ∀ (f i : Nat) (s : yb_S) (X : List (FieldType × Nat)) (ce sl : Nat), yb_n G < i + 6 * f → i ≤ yb_n G + 6 → X.length ≤ i → ce ≤ 603 + i → sl ≤ 95285 + 24 * i → Inv s → Rn G RL cL_law 4 ret false room_1 lawQ ce sl 18 [some (.ref (yb_b G)), some (.ref (yb_ad G 0)), some (.ref (yb_ad G 176)), some (.int (nI i))] [] (yb_mk s X) := by
  intro f
  induction f with
  | zero =>
    intro i s X ce sl h1 h2 hX hce hsl hs
    have hz0 : ce ≤ room_1.cells ∧ sl ≤ room_1.slots := ⟨show ce ≤ 600000 by omega, show sl ≤ 7302249 by omega⟩
    refine n_iload_n (i := 3) dL_law_18 rfl rfl ?_
    refine n_aload_n (i := 0) dL_law_19 rfl rfl ?_
    refine n_slen dL_law_20 ?_
    refine n_bipush (6 : Int32) dL_law_21 (by decide) ?_
    refine n_isub dL_law_23 ?_
    refine n_icmp_gt 1729 dL_law_24 (by decide) (fun c => ?_) (fun c => absurd (law_gt hN h2 (by omega)) c)
    refine n_iconst (1 : Int32) dL_law_1729 (by decide) ?_
    exact n_iret dL_law_1730 rfl (by decide) hz0.1 hz0.2 rfl
  | succ f ih =>
    intro i s X ce sl h1 h2 hX hce hsl hs
    have hz0 : ce ≤ room_1.cells ∧ sl ≤ room_1.slots := ⟨show ce ≤ 600000 by omega, show sl ≤ 7302249 by omega⟩
    refine n_iload_n (i := 3) dL_law_18 rfl rfl ?_
    refine n_aload_n (i := 0) dL_law_19 rfl rfl ?_
    refine n_slen dL_law_20 ?_
    refine n_bipush (6 : Int32) dL_law_21 (by decide) ?_
    refine n_isub dL_law_23 ?_
    refine n_icmp_gt 1729 dL_law_24 (by decide) (fun c => ?_) (fun c => ?_)
    · refine n_iconst (1 : Int32) dL_law_1729 (by decide) ?_
      exact n_iret dL_law_1730 rfl (by decide) hz0.1 hz0.2 rfl
    · have hle : i + 6 ≤ yb_n G := by
        rcases Nat.lt_or_ge (yb_n G) (i + 6) with h | h
        · exact absurd (law_gt hN h2 h) c
        · exact h
      have hnext : ∀ (s' : yb_S) (X' : List (FieldType × Nat)) (ce' sl' : Nat), Inv s' → X'.length ≤ X.length + 1 → ce' ≤ ce + 1 → sl' ≤ sl + 24 → Rn G RL cL_law 4 ret false room_1 lawQ ce' sl' 1723 [some (.ref (yb_b G)), some (.ref (yb_ad G 0)), some (.ref (yb_ad G 176)), some (.int (nI i))] [] (yb_mk s' X') := by
        intro s' X' ce' sl' hs' hX' hce' hsl'
        refine n_iinc (vs' := [some (.ref (yb_b G)), some (.ref (yb_ad G 0)), some (.ref (yb_ad G 176)), some (.int (nI (i + 6)))]) dL_law_1723 rfl (nI_add i 6) (Nat.le_of_ble_eq_true rfl) rfl rfl ?_
        refine n_goto 18 dL_law_1726 (by decide) ?_
        exact ih (i + 6) s' X' ce' sl' (by omega) (by omega) (by omega) (by omega) (by omega) hs'
      refine n_aload_n (i := 0) dL_law_27 rfl rfl ?_
      refine n_iload_n (i := 3) dL_law_28 rfl rfl ?_
      refine n_sld (law_inz ⟨hle, hN⟩) dL_law_29 ?_
      refine n_bipush (63 : Int32) dL_law_30 (by decide) ?_
      refine n_iand dL_law_32 ?_
      generalize hw : yb_xs G (nI i).toNatClampNeg &&& 63 = w
      by_cases c0 : w = (0 : Int32)
      · refine n_tableIn (off := 203) 236 dL_law_33 (by rw [c0]; decide) (by rw [c0]; decide) (by rw [c0]; decide) (by decide) ?_
        exact law_op_0 E0 hs ⟨hle, hN⟩ (by omega) (by omega) (by omega) hnext
      by_cases c1 : w = (1 : Int32)
      · refine n_tableIn (off := 246) 279 dL_law_33 (by rw [c1]; decide) (by rw [c1]; decide) (by rw [c1]; decide) (by decide) ?_
        exact law_op_1 E1 hs ⟨hle, hN⟩ (by omega) (by omega) (by omega) hnext
      by_cases c2 : w = (2 : Int32)
      · refine n_tableIn (off := 295) 328 dL_law_33 (by rw [c2]; decide) (by rw [c2]; decide) (by rw [c2]; decide) (by decide) ?_
        exact law_op_2 E2 hs ⟨hle, hN⟩ (by omega) (by omega) (by omega) hnext
      by_cases c3 : w = (3 : Int32)
      · refine n_tableIn (off := 338) 371 dL_law_33 (by rw [c3]; decide) (by rw [c3]; decide) (by rw [c3]; decide) (by decide) ?_
        exact law_op_3 E3 hs ⟨hle, hN⟩ (by omega) (by omega) (by omega) hnext
      by_cases c4 : w = (4 : Int32)
      · refine n_tableIn (off := 361) 394 dL_law_33 (by rw [c4]; decide) (by rw [c4]; decide) (by rw [c4]; decide) (by decide) ?_
        exact law_op_4 E4 hs ⟨hle, hN⟩ (by omega) (by omega) (by omega) hnext
      by_cases c5 : w = (5 : Int32)
      · refine n_tableIn (off := 394) 427 dL_law_33 (by rw [c5]; decide) (by rw [c5]; decide) (by rw [c5]; decide) (by decide) ?_
        exact law_op_5 E5 hs ⟨hle, hN⟩ (by omega) (by omega) (by omega) hnext
      by_cases c6 : w = (6 : Int32)
      · refine n_tableIn (off := 427) 460 dL_law_33 (by rw [c6]; decide) (by rw [c6]; decide) (by rw [c6]; decide) (by decide) ?_
        exact law_op_6 E6 hs ⟨hle, hN⟩ (by omega) (by omega) (by omega) hnext
      by_cases c7 : w = (7 : Int32)
      · refine n_tableIn (off := 470) 503 dL_law_33 (by rw [c7]; decide) (by rw [c7]; decide) (by rw [c7]; decide) (by decide) ?_
        exact law_op_7 E7 hs ⟨hle, hN⟩ (by omega) (by omega) (by omega) hnext
      by_cases c8 : w = (8 : Int32)
      · refine n_tableIn (off := 533) 566 dL_law_33 (by rw [c8]; decide) (by rw [c8]; decide) (by rw [c8]; decide) (by decide) ?_
        exact law_op_8 E8 hs ⟨hle, hN⟩ (by omega) (by omega) (by omega) hnext
      by_cases c9 : w = (9 : Int32)
      · refine n_tableIn (off := 566) 599 dL_law_33 (by rw [c9]; decide) (by rw [c9]; decide) (by rw [c9]; decide) (by decide) ?_
        exact law_op_9 E9 hs ⟨hle, hN⟩ (by omega) (by omega) (by omega) hnext
      by_cases c10 : w = (10 : Int32)
      · refine n_tableIn (off := 589) 622 dL_law_33 (by rw [c10]; decide) (by rw [c10]; decide) (by rw [c10]; decide) (by decide) ?_
        exact law_op_10 E10 hs ⟨hle, hN⟩ (by omega) (by omega) (by omega) hnext
      by_cases c11 : w = (11 : Int32)
      · refine n_tableIn (off := 612) 645 dL_law_33 (by rw [c11]; decide) (by rw [c11]; decide) (by rw [c11]; decide) (by decide) ?_
        exact law_op_11 E11 hs ⟨hle, hN⟩ (by omega) (by omega) (by omega) hnext
      by_cases c12 : w = (12 : Int32)
      · refine n_tableIn (off := 645) 678 dL_law_33 (by rw [c12]; decide) (by rw [c12]; decide) (by rw [c12]; decide) (by decide) ?_
        exact law_op_12 E12 hs ⟨hle, hN⟩ (by omega) (by omega) (by omega) hnext
      by_cases c13 : w = (13 : Int32)
      · refine n_tableIn (off := 668) 701 dL_law_33 (by rw [c13]; decide) (by rw [c13]; decide) (by rw [c13]; decide) (by decide) ?_
        exact law_op_13 E13 hs ⟨hle, hN⟩ (by omega) (by omega) (by omega) hnext
      by_cases c14 : w = (14 : Int32)
      · refine n_tableIn (off := 701) 734 dL_law_33 (by rw [c14]; decide) (by rw [c14]; decide) (by rw [c14]; decide) (by decide) ?_
        exact law_op_14 E14 hs ⟨hle, hN⟩ (by omega) (by omega) (by omega) hnext
      by_cases c15 : w = (15 : Int32)
      · refine n_tableIn (off := 744) 777 dL_law_33 (by rw [c15]; decide) (by rw [c15]; decide) (by rw [c15]; decide) (by decide) ?_
        exact law_op_15 E15 hs ⟨hle, hN⟩ (by omega) (by omega) (by omega) hnext
      by_cases c16 : w = (16 : Int32)
      · refine n_tableIn (off := 777) 810 dL_law_33 (by rw [c16]; decide) (by rw [c16]; decide) (by rw [c16]; decide) (by decide) ?_
        exact law_op_16 E16 hs ⟨hle, hN⟩ (by omega) (by omega) (by omega) hnext
      by_cases c17 : w = (17 : Int32)
      · refine n_tableIn (off := 800) 833 dL_law_33 (by rw [c17]; decide) (by rw [c17]; decide) (by rw [c17]; decide) (by decide) ?_
        exact law_op_17 E17 hs ⟨hle, hN⟩ (by omega) (by omega) (by omega) hnext
      by_cases c18 : w = (18 : Int32)
      · refine n_tableIn (off := 823) 856 dL_law_33 (by rw [c18]; decide) (by rw [c18]; decide) (by rw [c18]; decide) (by decide) ?_
        exact law_op_18 E18 hs ⟨hle, hN⟩ (by omega) (by omega) (by omega) hnext
      by_cases c19 : w = (19 : Int32)
      · refine n_tableIn (off := 886) 919 dL_law_33 (by rw [c19]; decide) (by rw [c19]; decide) (by rw [c19]; decide) (by decide) ?_
        exact law_op_19 E19 hs ⟨hle, hN⟩ (by omega) (by omega) (by omega) hnext
      by_cases c20 : w = (20 : Int32)
      · refine n_tableIn (off := 909) 942 dL_law_33 (by rw [c20]; decide) (by rw [c20]; decide) (by rw [c20]; decide) (by decide) ?_
        exact law_op_20 E20 hs ⟨hle, hN⟩ (by omega) (by omega) (by omega) hnext
      by_cases c21 : w = (21 : Int32)
      · refine n_tableIn (off := 922) 955 dL_law_33 (by rw [c21]; decide) (by rw [c21]; decide) (by rw [c21]; decide) (by decide) ?_
        exact law_op_21 E21 hs ⟨hle, hN⟩ (by omega) (by omega) (by omega) hnext
      by_cases c22 : w = (22 : Int32)
      · refine n_tableIn (off := 935) 968 dL_law_33 (by rw [c22]; decide) (by rw [c22]; decide) (by rw [c22]; decide) (by decide) ?_
        exact law_op_22 E22 hs ⟨hle, hN⟩ (by omega) (by omega) (by omega) hnext
      by_cases c23 : w = (23 : Int32)
      · refine n_tableIn (off := 958) 991 dL_law_33 (by rw [c23]; decide) (by rw [c23]; decide) (by rw [c23]; decide) (by decide) ?_
        exact law_op_23 E23 hs ⟨hle, hN⟩ (by omega) (by omega) (by omega) hnext
      by_cases c24 : w = (24 : Int32)
      · refine n_tableIn (off := 991) 1024 dL_law_33 (by rw [c24]; decide) (by rw [c24]; decide) (by rw [c24]; decide) (by decide) ?_
        exact law_op_24 E24 hs ⟨hle, hN⟩ (by omega) (by omega) (by omega) hnext
      by_cases c25 : w = (25 : Int32)
      · refine n_tableIn (off := 1024) 1057 dL_law_33 (by rw [c25]; decide) (by rw [c25]; decide) (by rw [c25]; decide) (by decide) ?_
        exact law_op_25 E25 hs ⟨hle, hN⟩ (by omega) (by omega) (by omega) hnext
      by_cases c26 : w = (26 : Int32)
      · refine n_tableIn (off := 1047) 1080 dL_law_33 (by rw [c26]; decide) (by rw [c26]; decide) (by rw [c26]; decide) (by decide) ?_
        exact law_op_26 E26 hs ⟨hle, hN⟩ (by omega) (by omega) (by omega) hnext
      by_cases c27 : w = (27 : Int32)
      · refine n_tableIn (off := 1080) 1113 dL_law_33 (by rw [c27]; decide) (by rw [c27]; decide) (by rw [c27]; decide) (by decide) ?_
        exact law_op_27 E27 hs ⟨hle, hN⟩ (by omega) (by omega) (by omega) hnext
      by_cases c28 : w = (28 : Int32)
      · refine n_tableIn (off := 1093) 1126 dL_law_33 (by rw [c28]; decide) (by rw [c28]; decide) (by rw [c28]; decide) (by decide) ?_
        exact law_op_28 E28 hs ⟨hle, hN⟩ (by omega) (by omega) (by omega) hnext
      by_cases c29 : w = (29 : Int32)
      · refine n_tableIn (off := 1126) 1159 dL_law_33 (by rw [c29]; decide) (by rw [c29]; decide) (by rw [c29]; decide) (by decide) ?_
        exact law_op_29 E29 hs ⟨hle, hN⟩ (by omega) (by omega) (by omega) hnext
      by_cases c30 : w = (30 : Int32)
      · refine n_tableIn (off := 1159) 1192 dL_law_33 (by rw [c30]; decide) (by rw [c30]; decide) (by rw [c30]; decide) (by decide) ?_
        exact law_op_30 E30 hs ⟨hle, hN⟩ (by omega) (by omega) (by omega) hnext
      by_cases c31 : w = (31 : Int32)
      · refine n_tableIn (off := 1182) 1215 dL_law_33 (by rw [c31]; decide) (by rw [c31]; decide) (by rw [c31]; decide) (by decide) ?_
        exact law_op_31 E31 hs ⟨hle, hN⟩ (by omega) (by omega) (by omega) hnext
      by_cases c32 : w = (32 : Int32)
      · refine n_tableIn (off := 1205) 1238 dL_law_33 (by rw [c32]; decide) (by rw [c32]; decide) (by rw [c32]; decide) (by decide) ?_
        exact law_op_32 E32 hs ⟨hle, hN⟩ (by omega) (by omega) (by omega) hnext
      by_cases c33 : w = (33 : Int32)
      · refine n_tableIn (off := 1238) 1271 dL_law_33 (by rw [c33]; decide) (by rw [c33]; decide) (by rw [c33]; decide) (by decide) ?_
        exact law_op_33 E33 hs ⟨hle, hN⟩ (by omega) (by omega) (by omega) hnext
      by_cases c34 : w = (34 : Int32)
      · refine n_tableIn (off := 1271) 1304 dL_law_33 (by rw [c34]; decide) (by rw [c34]; decide) (by rw [c34]; decide) (by decide) ?_
        exact law_op_34 E34 hs ⟨hle, hN⟩ (by omega) (by omega) (by omega) hnext
      by_cases c35 : w = (35 : Int32)
      · refine n_tableIn (off := 1284) 1317 dL_law_33 (by rw [c35]; decide) (by rw [c35]; decide) (by rw [c35]; decide) (by decide) ?_
        exact law_op_35 E35 hs ⟨hle, hN⟩ (by omega) (by omega) (by omega) hnext
      by_cases c36 : w = (36 : Int32)
      · refine n_tableIn (off := 1307) 1340 dL_law_33 (by rw [c36]; decide) (by rw [c36]; decide) (by rw [c36]; decide) (by decide) ?_
        exact law_op_36 E36 hs ⟨hle, hN⟩ (by omega) (by omega) (by omega) hnext
      by_cases c37 : w = (37 : Int32)
      · refine n_tableIn (off := 1350) 1383 dL_law_33 (by rw [c37]; decide) (by rw [c37]; decide) (by rw [c37]; decide) (by decide) ?_
        exact law_op_37 E37 hs ⟨hle, hN⟩ (by omega) (by omega) (by omega) hnext
      by_cases c38 : w = (38 : Int32)
      · refine n_tableIn (off := 1393) 1426 dL_law_33 (by rw [c38]; decide) (by rw [c38]; decide) (by rw [c38]; decide) (by decide) ?_
        exact law_op_38 E38 hs ⟨hle, hN⟩ (by omega) (by omega) (by omega) hnext
      by_cases c39 : w = (39 : Int32)
      · refine n_tableIn (off := 1436) 1469 dL_law_33 (by rw [c39]; decide) (by rw [c39]; decide) (by rw [c39]; decide) (by decide) ?_
        exact law_op_39 E39 hs ⟨hle, hN⟩ (by omega) (by omega) (by omega) hnext
      by_cases c40 : w = (40 : Int32)
      · refine n_tableIn (off := 1469) 1502 dL_law_33 (by rw [c40]; decide) (by rw [c40]; decide) (by rw [c40]; decide) (by decide) ?_
        exact law_op_40 E40 hs ⟨hle, hN⟩ (by omega) (by omega) (by omega) hnext
      by_cases c41 : w = (41 : Int32)
      · refine n_tableIn (off := 1502) 1535 dL_law_33 (by rw [c41]; decide) (by rw [c41]; decide) (by rw [c41]; decide) (by decide) ?_
        exact law_op_41 E41 hs ⟨hle, hN⟩ (by omega) (by omega) (by omega) hnext
      by_cases c42 : w = (42 : Int32)
      · refine n_tableIn (off := 1525) 1558 dL_law_33 (by rw [c42]; decide) (by rw [c42]; decide) (by rw [c42]; decide) (by decide) ?_
        exact law_op_42 E42 hs ⟨hle, hN⟩ (by omega) (by omega) (by omega) hnext
      by_cases c43 : w = (43 : Int32)
      · refine n_tableIn (off := 1568) 1601 dL_law_33 (by rw [c43]; decide) (by rw [c43]; decide) (by rw [c43]; decide) (by decide) ?_
        exact law_op_43 E43 hs ⟨hle, hN⟩ (by omega) (by omega) (by omega) hnext
      by_cases c44 : w = (44 : Int32)
      · refine n_tableIn (off := 1601) 1634 dL_law_33 (by rw [c44]; decide) (by rw [c44]; decide) (by rw [c44]; decide) (by decide) ?_
        exact law_op_44 E44 hs ⟨hle, hN⟩ (by omega) (by omega) (by omega) hnext
      by_cases c45 : w = (45 : Int32)
      · refine n_tableIn (off := 1634) 1667 dL_law_33 (by rw [c45]; decide) (by rw [c45]; decide) (by rw [c45]; decide) (by decide) ?_
        exact law_op_45 E45 hs ⟨hle, hN⟩ (by omega) (by omega) (by omega) hnext
      by_cases c46 : w = (46 : Int32)
      · refine n_tableIn (off := 1667) 1700 dL_law_33 (by rw [c46]; decide) (by rw [c46]; decide) (by rw [c46]; decide) (by decide) ?_
        exact law_op_46 E46 hs ⟨hle, hN⟩ (by omega) (by omega) (by omega) hnext
      refine n_tableOut 1723 dL_law_33 (by have z0 := lv_neT c0 (a := 0) (by decide); have z1 := lv_neT c1 (a := 1) (by decide); have z2 := lv_neT c2 (a := 2) (by decide); have z3 := lv_neT c3 (a := 3) (by decide); have z4 := lv_neT c4 (a := 4) (by decide); have z5 := lv_neT c5 (a := 5) (by decide); have z6 := lv_neT c6 (a := 6) (by decide); have z7 := lv_neT c7 (a := 7) (by decide); have z8 := lv_neT c8 (a := 8) (by decide); have z9 := lv_neT c9 (a := 9) (by decide); have z10 := lv_neT c10 (a := 10) (by decide); have z11 := lv_neT c11 (a := 11) (by decide); have z12 := lv_neT c12 (a := 12) (by decide); have z13 := lv_neT c13 (a := 13) (by decide); have z14 := lv_neT c14 (a := 14) (by decide); have z15 := lv_neT c15 (a := 15) (by decide); have z16 := lv_neT c16 (a := 16) (by decide); have z17 := lv_neT c17 (a := 17) (by decide); have z18 := lv_neT c18 (a := 18) (by decide); have z19 := lv_neT c19 (a := 19) (by decide); have z20 := lv_neT c20 (a := 20) (by decide); have z21 := lv_neT c21 (a := 21) (by decide); have z22 := lv_neT c22 (a := 22) (by decide); have z23 := lv_neT c23 (a := 23) (by decide); have z24 := lv_neT c24 (a := 24) (by decide); have z25 := lv_neT c25 (a := 25) (by decide); have z26 := lv_neT c26 (a := 26) (by decide); have z27 := lv_neT c27 (a := 27) (by decide); have z28 := lv_neT c28 (a := 28) (by decide); have z29 := lv_neT c29 (a := 29) (by decide); have z30 := lv_neT c30 (a := 30) (by decide); have z31 := lv_neT c31 (a := 31) (by decide); have z32 := lv_neT c32 (a := 32) (by decide); have z33 := lv_neT c33 (a := 33) (by decide); have z34 := lv_neT c34 (a := 34) (by decide); have z35 := lv_neT c35 (a := 35) (by decide); have z36 := lv_neT c36 (a := 36) (by decide); have z37 := lv_neT c37 (a := 37) (by decide); have z38 := lv_neT c38 (a := 38) (by decide); have z39 := lv_neT c39 (a := 39) (by decide); have z40 := lv_neT c40 (a := 40) (by decide); have z41 := lv_neT c41 (a := 41) (by decide); have z42 := lv_neT c42 (a := 42) (by decide); have z43 := lv_neT c43 (a := 43) (by decide); have z44 := lv_neT c44 (a := 44) (by decide); have z45 := lv_neT c45 (a := 45) (by decide); have z46 := lv_neT c46 (a := 46) (by decide); omega) (by decide) ?_
      exact hnext s X ce sl hs (Nat.le_succ _) (Nat.le_succ _) (Nat.le_add_right _ _)
