/-! STRINGS: the constants' length and chars, by the JDK's own code -/
def yb_sOK (w : Nat) : Prop := 100000 ≤ w ∧ w < 100028
theorem yb_sOK_ad {G : yb_G} {w : Nat} (h : yb_sOK w) : yb_ad G w = yb_sa G (w - 100000) := if_neg (by have := h.1; omega)
theorem yb_sOK_lt {w : Nat} (h : yb_sOK w) : w - 100000 < yb_strs.length := Nat.lt_of_lt_of_le (show w - 100000 < 28 by have := h.1; have := h.2; omega) (Nat.le_of_ble_eq_true rfl)
def yb_sl (w : Nat) : Option Int32 := if 100000 ≤ w ∧ w < 100028 then some (Int32.ofNat (yb_len (w - 100000))) else none
def yb_sc (w : Nat) (k : Int32) : Option Int32 := if 100000 ≤ w ∧ w < 100028 then (if k < 0 ∨ yb_len (w - 100000) ≤ k.toNatClampNeg then none else some (yb_chr (w - 100000) k.toNatClampNeg)) else none
theorem yb_sl_some {w : Nat} {v : Int32} (h : yb_sl w = some v) : yb_sOK w ∧ v = Int32.ofNat (yb_len (w - 100000)) := by
  unfold yb_sl at h
  split at h
  · next q => exact ⟨q, (Option.some.inj h).symm⟩
  · cases h
theorem yb_sc_some {w : Nat} {k v : Int32} (h : yb_sc w k = some v) : yb_sOK w ∧ vp_in k (yb_len (w - 100000)) ∧ v = yb_chr (w - 100000) k.toNatClampNeg := by
  unfold yb_sc at h
  split at h
  · next q =>
    split at h
    · cases h
    · next q2 => exact ⟨q, q2, (Option.some.inj h).symm⟩
  · cases h
theorem yb_len_small : ∀ i, i < 28 → yb_len i < 200 := by decide +kernel
theorem yb_chr_ok : ∀ i, i < 28 → ∀ k, k < yb_len i → (((yb_chr i k &&& 255).toUInt32 % 65536).toInt32 = yb_chr i k ∧ narrow .char (.int (yb_chr i k)) = .int (yb_chr i k)) := by decide +kernel
def yb_cT (own : String) (index : Nat) (y : MethodName) (bytes : ByteArray) (maxL : Nat) (rt : Option FieldType) (n : Nat) : Prop :=
  yb_cw y bytes maxL rt n ∧ Cond.methodLink own index y ∈ yb_gw ∧ Cond.instanceMethod y ∈ yb_gw ∧ Cond.selects y.cls y y ∈ yb_gw ∧ y.cls = "java/lang/String"
theorem yb_lo {G : yb_G} {H : Heap} {M : yb_M} {q : Nat} {c : Cell} (hW : yb_W G M H) (hz : (yb_H0 G).size = yb_h0 G) (h : (yb_H0 G)[q]? = some c) : H[q]? = some c := by
  rw [hW.2.2.1 q (by rw [← hz]; exact (Array.getElem?_eq_some_iff.mp h).1)]
  exact h
section YS
variable {G : yb_G} {own : String} {cc : ByteArray} {nL : Nat} {ret : Option FieldType} {ini : Bool} {R : Room} {Q : Option Value → yb_M → Prop} {ce sl pc : Nat} {vs : List (Option Value)} {st : List Value} {M : yb_M}
theorem n_ldcS {index i : Nat} {tx : String} (hs : yb_strs[i]? = some (own, index, tx)) (hd : decode cc pc = .ok (.ldc index, 2)) (kk : Rn G own cc nL ret ini R Q ce sl (pc + 2) vs (.ref (yb_ad G (100000 + i)) :: st) M) : Rn G own cc nL ret ini R Q ce sl pc vs st M := by
  intro p l e s m args below meth c K H locs ls hC hW hL hl hk
  have hZ := hC.2.2.2.2.2.2.2.2.2.2.2.2.2.1 i _ hs
  have h := kk p l e s m args below meth c K H locs ls hC hW hL hl hk
  rw [show yb_ad G (100000 + i) = yb_sa G i from (if_neg (by omega)).trans (by rw [Nat.add_sub_cancel_left])] at h
  exact va_ldcS hC.1 hC.2.1 hC.2.2.2.1 hZ hd h
theorem n_gcs {idx : Nat} (hw : Cond.fieldLink own idx "java/lang/String" "COMPACT_STRINGS" "Z" ∈ yb_gw) (hd : decode cc pc = .ok (.getstatic idx, 3)) (kk : Rn G own cc nL ret ini R Q ce sl (pc + 3) vs (.int 1 :: st) M) : Rn G own cc nL ret ini R Q ce sl pc vs st M := by
  intro p l e s m args below meth c K H locs ls hC hW hL hl hk
  have hK := hC.2.2.2.2.2.2.2
  obtain ⟨cf, kf, fi, f, a, cell, h1, h2, h3, h4, h5, h6, h7, h8⟩ := hK.2.2.2.2.2.2.2.1
  exact W.gets hC.1 hC.2.1 hC.2.2.2.1 (hC.2.2.2.2.1 _ hw) h1 h2 h3 h4 (yb_lo hW hK.2.2.2.1 h5) (fun e => by rw [e] at h6; cases h6) h7 rfl hd (kk p l e s m args below meth c K H locs ls hC hW hL hl hk)
theorem n_gsf {idx : Nat} (hw : Cond.fieldLink own idx "jdk/internal/util/Preconditions" "SIOOBE_FORMATTER" "Ljava/util/function/BiFunction;" ∈ yb_gw) (hd : decode cc pc = .ok (.getstatic idx, 3)) (kk : ∀ v : Value, v.category = 1 → Rn G own cc nL ret ini R Q ce sl (pc + 3) vs (v :: st) M) : Rn G own cc nL ret ini R Q ce sl pc vs st M := by
  intro p l e s m args below meth c K H locs ls hC hW hL hl hk
  have hK := hC.2.2.2.2.2.2.2
  rcases hK.2.2.2.2.2.2.2.2.1 with h | ⟨t, h⟩
  all_goals
    obtain ⟨cf, kf, fi, f, a, cell, h1, h2, h3, h4, h5, h6, h7, h8⟩ := h
    exact W.gets hC.1 hC.2.1 hC.2.2.2.1 (hC.2.2.2.2.1 _ hw) h1 h2 h3 h4 (yb_lo hW hK.2.2.2.1 h5) (fun e => by rw [e] at h6; cases h6) h7 rfl hd (kk _ rfl p l e s m args below meth c K H locs ls hC hW hL hl hk)
theorem n_sval {idx w : Nat} (hs : yb_sOK w) (hw : Cond.fieldLink own idx "java/lang/String" "value" "[B" ∈ yb_gw) (hd : decode cc pc = .ok (.getfield idx, 3)) (kk : Rn G own cc nL ret ini R Q ce sl (pc + 3) vs (.ref (yb_sv G (w - 100000)) :: st) M) : Rn G own cc nL ret ini R Q ce sl pc vs (.ref (yb_ad G w) :: st) M := by
  rw [yb_sOK_ad hs]
  intro p l e s m args below meth c K H locs ls hC hW hL hl hk
  have hK := hC.2.2.2.2.2.2.2
  obtain ⟨cf, k, fi, f, cell, h1, h2, h3, h4, h5, h6⟩ := (hK.2.2.2.2.2.1 _ (yb_sOK_lt hs)).2.2.1
  exact W.getf hC.1 hC.2.1 hC.2.2.2.1 (hC.2.2.2.2.1 _ hw) h1 h2 (yb_lo hW hK.2.2.2.1 h3) h4 h5 rfl rfl hd (kk p l e s m args below meth c K H locs ls hC hW hL hl hk)
theorem n_scod {idx w : Nat} (hs : yb_sOK w) (hw : Cond.fieldLink own idx "java/lang/String" "coder" "B" ∈ yb_gw) (hd : decode cc pc = .ok (.getfield idx, 3)) (kk : Rn G own cc nL ret ini R Q ce sl (pc + 3) vs (.int 0 :: st) M) : Rn G own cc nL ret ini R Q ce sl pc vs (.ref (yb_ad G w) :: st) M := by
  rw [yb_sOK_ad hs]
  intro p l e s m args below meth c K H locs ls hC hW hL hl hk
  have hK := hC.2.2.2.2.2.2.2
  obtain ⟨cf, k, fi, f, cell, h1, h2, h3, h4, h5, h6⟩ := (hK.2.2.2.2.2.1 _ (yb_sOK_lt hs)).2.1
  exact W.getf hC.1 hC.2.1 hC.2.2.2.1 (hC.2.2.2.2.1 _ hw) h1 h2 (yb_lo hW hK.2.2.2.1 h3) h4 h5 rfl rfl hd (kk p l e s m args below meth c K H locs ls hC hW hL hl hk)
theorem n_sblen {w : Nat} (hs : yb_sOK w) (hd : decode cc pc = .ok (.arraylength, 1)) (kk : Rn G own cc nL ret ini R Q ce sl (pc + 1) vs (.int (Int32.ofNat (yb_len (w - 100000))) :: st) M) : Rn G own cc nL ret ini R Q ce sl pc vs (.ref (yb_sv G (w - 100000)) :: st) M := by
  intro p l e s m args below meth c K H locs ls hC hW hL hl hk
  have hK := hC.2.2.2.2.2.2.2
  obtain ⟨cell, h1, h2, h3, h4, h5, h6, h7⟩ := (hK.2.2.2.2.2.1 _ (yb_sOK_lt hs)).2.2.2
  exact W.alen hC.1 hC.2.1 (yb_lo hW hK.2.2.2.1 h1) h2 h5 rfl rfl hd (kk p l e s m args below meth c K H locs ls hC hW hL hl hk)
theorem n_sbald {w : Nat} {i : Int32} (hs : yb_sOK w) (hin : vp_in i (yb_len (w - 100000))) (hd : decode cc pc = .ok (.baload, 1)) (kk : Rn G own cc nL ret ini R Q ce sl (pc + 1) vs (.int (yb_chr (w - 100000) i.toNatClampNeg) :: st) M) : Rn G own cc nL ret ini R Q ce sl pc vs (.int i :: .ref (yb_sv G (w - 100000)) :: st) M := by
  intro p l e s m args below meth c K H locs ls hC hW hL hl hk
  have hK := hC.2.2.2.2.2.2.2
  obtain ⟨cell, h1, h2, h3, h4, h5, h6, h7⟩ := (hK.2.2.2.2.2.1 _ (yb_sOK_lt hs)).2.2.2
  exact W.bald hC.1 hC.2.1 (yb_lo hW hK.2.2.2.1 h1) h2 h3 (fun q => hin (q.imp_right (Nat.le_trans h4))) (h6 _ (yb_lt hin)) rfl rfl hd (kk p l e s m args below meth c K H locs ls hC hW hL hl hk)
theorem n_i2c {x : Int32} (hd : decode cc pc = .ok (.i2c, 1)) (k : Rn G own cc nL ret ini R Q ce sl (pc + 1) vs (.int (x.toUInt32 % 65536).toInt32 :: st) M) : Rn G own cc nL ret ini R Q ce sl pc vs (.int x :: st) M :=
  fun p l e s m args below meth c K H locs ls hC hW hL hl hk => lv_i2c hC.1 hC.2.1 hd rfl (k p l e s m args below meth c K H locs ls hC hW hL hl hk)
theorem n_callT {index w n maxL : Nat} {y : MethodName} {bytes : ByteArray} {rt : Option FieldType} {rm : Room} {As st0 : List Value} {Q' : Option Value → yb_M → Prop} (hM : Ct G y bytes maxL rt rm (.ref (yb_ad G w) :: As) M Q') (hw : yb_cT own index y bytes maxL rt n) (hs : yb_sOK w) (hn : As.length = n) (hst : st0 = As.reverse ++ .ref (yb_ad G w) :: st)
    (hsum : (st.map fun v => v.category).sum ≤ 8) (hd : decode cc pc = .ok (.invokevirtual index, 3)) (hR : rm.frames + 1 ≤ R.frames ∧ 8 + (maxL + 11) + rm.locals ≤ R.locals) (hc : ce + rm.cells ≤ R.cells ∧ sl + rm.slots ≤ R.slots)
    (kk : ∀ (v : Option Value) (M' : yb_M), yb_okv rt v → Q' v M' → Rn G own cc nL ret ini R Q (ce + rm.cells) (sl + rm.slots) (pc + 3) vs (v.toList ++ st) M') : Rn G own cc nL ret ini R Q ce sl pc vs st0 M := by
  intro p l e s m args below meth c K H locs ls hC hW hL hl hk
  obtain ⟨w0, w1, w2, w3, w4⟩ := hw
  have hts := hC.2.2.2.2.1
  have hK := hC.2.2.2.2.2.2.2
  obtain ⟨cell, h1, h2, h3, h4⟩ := (hK.2.2.2.2.2.1 _ (yb_sOK_lt hs)).1
  refine yb_run (va_runV (C := y.cls) (As := As) (rest := st) (b := yb_ad G w) ⟨hC.1, hC.2.1, hC.2.2.1, hC.2.2.2.1, hts⟩ (hM l) ⟨yb_cw.B hC w0 w1 hR, hts _ w2, hts _ w3⟩ ⟨yb_blind, ⟨cell, by rw [yb_sOK_ad hs]; exact yb_lo hW hK.2.2.2.1 h1, h2, by rw [w4]; exact h3⟩, fun U hU hWU => ⟨rfl, hC.2.2.2.2.2.2.2.warm hWU, by rw [hU]; exact hW⟩⟩ rfl hn hl.1 hst (lv_room hsum) hd hc) hL (fun v st₀ t locs1 hq hL1 => ?_)
  obtain ⟨v', M', hv, hok, hQ, hW'⟩ := hq
  cases hv
  exact kk v M' hok hQ p l e s m args below meth c K _ locs1 ls hC hW' hL1 hl hk
theorem p_callTi {s s' : yb_S} {X : List (FieldType × Nat)} {index w n maxL : Nat} {y : MethodName} {bytes : ByteArray} {rt : Option FieldType} {rm : Room} {As st0 : List Value} {x : Int32} (hM : Ct G y bytes maxL rt rm (.ref (yb_ad G w) :: As) (yb_mk s X) (yb_qi X s' x)) (hw : yb_cT own index y bytes maxL rt n) (hs : yb_sOK w) (hn : As.length = n) (hst : st0 = As.reverse ++ .ref (yb_ad G w) :: st) (hsum : (st.map fun v => v.category).sum ≤ 8) (hd : decode cc pc = .ok (.invokevirtual index, 3)) (hR : rm.frames + 1 ≤ R.frames ∧ 8 + (maxL + 11) + rm.locals ≤ R.locals) (hc : rm.cells = 0 ∧ rm.slots = 0) (hz : ce ≤ R.cells ∧ sl ≤ R.slots) (kk : yb_okv rt (some (.int x)) → Rn G own cc nL ret ini R Q ce sl (pc + 3) vs (.int x :: st) (yb_mk s' X)) : Rn G own cc nL ret ini R Q ce sl pc vs st0 (yb_mk s X) := by
  refine n_callT hM hw hs hn hst hsum hd hR ⟨by rw [hc.1]; exact hz.1, by rw [hc.2]; exact hz.2⟩ (fun v M' hok hq => ?_)
  obtain ⟨rfl, rfl⟩ := hq
  rw [hc.1, hc.2]
  exact kk hok
end YS
theorem ct_X9_114 : yb_cT RX9 114 yJ0_length_8abf5 cJ0_length_8abf5 1 (Option.some .int) 0 := ⟨cw_J0_length_8abf5, (yb_gw_in (yb_t4 _ (List.mem_of_getElem? (i := 57) rfl)) rfl), (yb_gw_in (yb_t4 _ (List.mem_of_getElem? (i := 58) rfl)) rfl), (yb_gw_in (yb_t4 _ (List.mem_of_getElem? (i := 59) rfl)) rfl), rfl⟩
theorem ct_X9_119 : yb_cT RX9 119 yJ0_charAt_5068e cJ0_charAt_5068e 2 (Option.some .char) 1 := ⟨cw_J0_charAt_5068e, (yb_gw_in (yb_t4 _ (List.mem_of_getElem? (i := 67) rfl)) rfl), (yb_gw_in (yb_t4 _ (List.mem_of_getElem? (i := 68) rfl)) rfl), (yb_gw_in (yb_t4 _ (List.mem_of_getElem? (i := 69) rfl)) rfl), rfl⟩
theorem ct_X12_365 : yb_cT RX12 365 yJ0_length_8abf5 cJ0_length_8abf5 1 (Option.some .int) 0 := ⟨cw_J0_length_8abf5, (yb_gw_in (yb_t8 _ (List.mem_of_getElem? (i := 92) rfl)) rfl), (yb_gw_in (yb_t4 _ (List.mem_of_getElem? (i := 58) rfl)) rfl), (yb_gw_in (yb_t4 _ (List.mem_of_getElem? (i := 59) rfl)) rfl), rfl⟩
theorem ct_X12_369 : yb_cT RX12 369 yJ0_charAt_5068e cJ0_charAt_5068e 2 (Option.some .char) 1 := ⟨cw_J0_charAt_5068e, (yb_gw_in (yb_t8 _ (List.mem_of_getElem? (i := 93) rfl)) rfl), (yb_gw_in (yb_t4 _ (List.mem_of_getElem? (i := 68) rfl)) rfl), (yb_gw_in (yb_t4 _ (List.mem_of_getElem? (i := 69) rfl)) rfl), rfl⟩
theorem ct_J0_335 : yb_cT RJ0 335 yJ0_coder_7d493 cJ0_coder_7d493 1 (Option.some .byte) 0 := ⟨cw_J0_coder_7d493, (yb_gw_in (yb_t4 _ (List.mem_of_getElem? (i := 61) rfl)) rfl), (yb_gw_in (yb_t4 _ (List.mem_of_getElem? (i := 62) rfl)) rfl), (yb_gw_in (yb_t4 _ (List.mem_of_getElem? (i := 63) rfl)) rfl), rfl⟩
theorem ct_J0_492 : yb_cT RJ0 492 yJ0_isLatin1_aae02 cJ0_isLatin1_aae02 1 (Option.some .boolean) 0 := ⟨cw_J0_isLatin1_aae02, (yb_gw_in (yb_t4 _ (List.mem_of_getElem? (i := 71) rfl)) rfl), (yb_gw_in (yb_t4 _ (List.mem_of_getElem? (i := 72) rfl)) rfl), (yb_gw_in (yb_t4 _ (List.mem_of_getElem? (i := 73) rfl)) rfl), rfl⟩
theorem sw_val : Cond.fieldLink RJ0 9 "java/lang/String" "value" "[B" ∈ yb_gw := (yb_gw_in (yb_t9 _ (List.mem_of_getElem? (i := 156) rfl)) rfl)
theorem sw_cod : Cond.fieldLink RJ0 15 "java/lang/String" "coder" "B" ∈ yb_gw := (yb_gw_in (yb_t9 _ (List.mem_of_getElem? (i := 157) rfl)) rfl)
theorem sw_cs : Cond.fieldLink RJ0 38 "java/lang/String" "COMPACT_STRINGS" "Z" ∈ yb_gw := (yb_gw_in (yb_t4 _ (List.mem_of_getElem? (i := 65) rfl)) rfl)
theorem sw_sf : Cond.fieldLink RJ0 1053 "jdk/internal/util/Preconditions" "SIOOBE_FORMATTER" "Ljava/util/function/BiFunction;" ∈ yb_gw := (yb_gw_in (yb_t4 _ (List.mem_of_getElem? (i := 81) rfl)) rfl)
set_option maxHeartbeats 4000000 in
theorem t_coder {G : yb_G} {X : List (FieldType × Nat)} {s : yb_S} {w : Nat} (hs : yb_sOK w) : Ct G yJ0_coder_7d493 cJ0_coder_7d493 1 (Option.some .byte) (yb_rm 1) [.ref (yb_ad G w)] (yb_mk s X) (yb_qi X s 0) := by
  refine Ct.of (own := RJ0) (ini := false) (vs := [some (.ref (yb_ad G w))]) ⟨rfl, by decide +kernel⟩ (fun h => by cases h) (Nat.le_of_ble_eq_true rfl) rfl ?_
  refine n_gcs sw_cs dJ0_coder_7d493_0 ?_
  refine n_if_eq 13 dJ0_coder_7d493_3 (by decide) (fun c => absurd c (by decide)) (fun c => ?_)
  refine n_aload_n (i := 0) dJ0_coder_7d493_6 rfl rfl ?_
  refine n_scod hs sw_cod dJ0_coder_7d493_7 ?_
  refine n_goto 14 dJ0_coder_7d493_10 (by decide) ?_
  exact n_iret dJ0_coder_7d493_14 rfl (by decide) (Nat.le_refl _) (Nat.le_refl _) ⟨rfl, rfl⟩
set_option maxHeartbeats 4000000 in
theorem t_latin {G : yb_G} {X : List (FieldType × Nat)} {s : yb_S} {w : Nat} (hs : yb_sOK w) : Ct G yJ0_isLatin1_aae02 cJ0_isLatin1_aae02 1 (Option.some .boolean) (yb_rm 1) [.ref (yb_ad G w)] (yb_mk s X) (yb_qi X s 1) := by
  refine Ct.of (own := RJ0) (ini := false) (vs := [some (.ref (yb_ad G w))]) ⟨rfl, by decide +kernel⟩ (fun h => by cases h) (Nat.le_of_ble_eq_true rfl) rfl ?_
  refine n_gcs sw_cs dJ0_isLatin1_aae02_0 ?_
  refine n_if_eq 17 dJ0_isLatin1_aae02_3 (by decide) (fun c => absurd c (by decide)) (fun c => ?_)
  refine n_aload_n (i := 0) dJ0_isLatin1_aae02_6 rfl rfl ?_
  refine n_scod hs sw_cod dJ0_isLatin1_aae02_7 ?_
  refine n_if_ne 17 dJ0_isLatin1_aae02_10 (by decide) (fun c => absurd rfl c) (fun c => ?_)
  refine n_iconst (1 : Int32) dJ0_isLatin1_aae02_13 (by decide) ?_
  refine n_goto 18 dJ0_isLatin1_aae02_14 (by decide) ?_
  exact n_iret dJ0_isLatin1_aae02_18 rfl (by decide) (Nat.le_refl _) (Nat.le_refl _) ⟨rfl, rfl⟩
set_option maxHeartbeats 4000000 in
theorem t_slen {G : yb_G} {X : List (FieldType × Nat)} {s : yb_S} {w : Nat} {v : Int32} (h : yb_sl w = some v) : Ct G yJ0_length_8abf5 cJ0_length_8abf5 1 (Option.some .int) (yb_rm 2) [.ref (yb_ad G w)] (yb_mk s X) (yb_qi X s v) := by
  refine Ct.of (own := RJ0) (ini := false) (vs := [some (.ref (yb_ad G w))]) ⟨rfl, by decide +kernel⟩ (fun h => by cases h) (Nat.le_of_ble_eq_true rfl) rfl ?_
  obtain ⟨hs, rfl⟩ := yb_sl_some h
  refine n_aload_n (i := 0) dJ0_length_8abf5_0 rfl rfl ?_
  refine n_sval hs sw_val dJ0_length_8abf5_1 ?_
  refine n_sblen hs dJ0_length_8abf5_4 ?_
  refine n_aload_n (i := 0) dJ0_length_8abf5_5 rfl rfl ?_
  refine p_callTi (As := []) (t_coder hs) ct_J0_335 hs rfl rfl (Nat.le_of_ble_eq_true rfl) dJ0_length_8abf5_6 (yb_rok (Nat.le_of_ble_eq_true rfl) (by decide)) ⟨rfl, rfl⟩ ⟨Nat.le_refl _, Nat.le_refl _⟩ (fun k => ?_)
  refine n_ishr dJ0_length_8abf5_9 ?_
  rw [show ((0 : Int32) &&& 31) = 0 from by decide, Int32.shiftRight_zero]
  exact n_iret dJ0_length_8abf5_10 rfl rfl (Nat.le_refl _) (Nat.le_refl _) ⟨rfl, rfl⟩
set_option maxHeartbeats 4000000 in
theorem t_pchk {G : yb_G} {X : List (FieldType × Nat)} {s : yb_S} {i n : Int32} {v : Value} (hv : v.category = 1) (h0 : ¬ i < 0) (h1 : i < n) : Ct G yJ3_checkIndex_8e157 cJ3_checkIndex_8e157 3 (Option.some .int) (yb_rm 1) [.int i, .int n, v] (yb_mk s X) (yb_qi X s i) := by
  refine Ct.of (own := RJ3) (ini := false) (vs := [some (.int i), some (.int n), some v]) ⟨rfl, by decide +kernel⟩ (fun h => by cases h) (by cases v <;> first | exact Nat.le_of_ble_eq_true rfl | (simp [Value.category] at hv; done)) (by cases v <;> first | rfl | (simp [Value.category] at hv; done)) ?_
  refine n_iload_n (i := 0) dJ3_checkIndex_8e157_0 rfl rfl ?_
  refine n_if_lt 9 dJ3_checkIndex_8e157_1 (by decide) (fun c => absurd c h0) (fun c => ?_)
  refine n_iload_n (i := 0) dJ3_checkIndex_8e157_4 rfl rfl ?_
  refine n_iload_n (i := 1) dJ3_checkIndex_8e157_5 rfl rfl ?_
  refine n_icmp_lt 16 dJ3_checkIndex_8e157_6 (by decide) (fun c => ?_) (fun c => absurd h1 c)
  refine n_iload_n (i := 0) dJ3_checkIndex_8e157_16 rfl rfl ?_
  exact n_iret dJ3_checkIndex_8e157_17 rfl rfl (Nat.le_refl _) (Nat.le_refl _) ⟨rfl, rfl⟩
set_option maxHeartbeats 4000000 in
theorem t_schk {G : yb_G} {X : List (FieldType × Nat)} {s : yb_S} {i n : Int32} (h0 : ¬ i < 0) (h1 : i < n) : Ct G yJ0_checkIndex_df160 cJ0_checkIndex_df160 2 none (yb_rm 2) [.int i, .int n] (yb_mk s X) (yb_qv X s) := by
  refine Ct.of (own := RJ0) (ini := false) (vs := [some (.int i), some (.int n)]) ⟨rfl, by decide +kernel⟩ (fun h => by cases h) (Nat.le_of_ble_eq_true rfl) rfl ?_
  refine n_iload_n (i := 0) dJ0_checkIndex_df160_0 rfl rfl ?_
  refine n_iload_n (i := 1) dJ0_checkIndex_df160_1 rfl rfl ?_
  refine n_gsf sw_sf dJ0_checkIndex_df160_2 (fun v hv => ?_)
  refine p_callSi (As := [.int i, .int n, v]) (t_pchk hv h0 h1) cs_J0_1059 rfl rfl (Nat.le_of_ble_eq_true rfl) dJ0_checkIndex_df160_5 (yb_rok (Nat.le_of_ble_eq_true rfl) (by decide)) ⟨rfl, rfl⟩ ⟨Nat.le_refl _, Nat.le_refl _⟩ (fun k => ?_)
  refine n_pop dJ0_checkIndex_df160_8 rfl ?_
  exact n_vret dJ0_checkIndex_df160_9 rfl (Nat.le_refl _) (Nat.le_refl _) ⟨rfl, rfl⟩
set_option maxRecDepth 20000 in
set_option maxHeartbeats 4000000 in
theorem t_lchr {G : yb_G} {X : List (FieldType × Nat)} {s : yb_S} {w : Nat} {k v : Int32} (h : yb_sc w k = some v) : Ct G yJ1_charAt_3b067 cJ1_charAt_3b067 2 (Option.some .char) (yb_rm 3) [.ref (yb_sv G (w - 100000)), .int k] (yb_mk s X) (yb_qi X s v) := by
  refine Ct.of (own := RJ1) (ini := false) (vs := [some (.ref (yb_sv G (w - 100000))), some (.int k)]) ⟨rfl, by decide +kernel⟩ (fun h => by cases h) (Nat.le_of_ble_eq_true rfl) rfl ?_
  obtain ⟨hs, hin, hv⟩ := yb_sc_some h
  rw [hv]
  clear hv h
  have hi : w - 100000 < 28 := by have := hs.1; have := hs.2; omega
  have hL := yb_len_small _ hi
  have hk := yb_chr_ok _ hi _ (yb_lt hin)
  have h0 : ¬ k < 0 := fun q => hin (Or.inl q)
  have h1 : k < Int32.ofNat (yb_len (w - 100000)) := by
    obtain ⟨j, hj, rfl⟩ := vp_in_of hin (by omega)
    exact nI_lt hj (by omega)
  refine n_iload_n (i := 1) dJ1_charAt_3b067_0 rfl rfl ?_
  refine n_aload_n (i := 0) dJ1_charAt_3b067_1 rfl rfl ?_
  refine n_sblen hs dJ1_charAt_3b067_2 ?_
  refine p_callSv (As := [.int k, .int (Int32.ofNat (yb_len (w - 100000)))]) (t_schk h0 h1) cs_J1_9 rfl rfl (Nat.le_of_ble_eq_true rfl) dJ1_charAt_3b067_3 (yb_rok (Nat.le_of_ble_eq_true rfl) (by decide)) ⟨rfl, rfl⟩ ⟨Nat.le_refl _, Nat.le_refl _⟩ (fun _ => ?_)
  refine n_aload_n (i := 0) dJ1_charAt_3b067_6 rfl rfl ?_
  refine n_iload_n (i := 1) dJ1_charAt_3b067_7 rfl rfl ?_
  refine n_sbald hs hin dJ1_charAt_3b067_8 ?_
  refine n_sipush (255 : Int32) dJ1_charAt_3b067_9 (by decide) ?_
  refine n_iand dJ1_charAt_3b067_12 ?_
  refine n_i2c dJ1_charAt_3b067_13 ?_
  rw [hk.1]
  exact n_iret dJ1_charAt_3b067_14 rfl hk.2 (Nat.le_refl _) (Nat.le_refl _) ⟨rfl, rfl⟩
set_option maxHeartbeats 4000000 in
theorem t_schr {G : yb_G} {X : List (FieldType × Nat)} {s : yb_S} {w : Nat} {k v : Int32} (h : yb_sc w k = some v) : Ct G yJ0_charAt_5068e cJ0_charAt_5068e 2 (Option.some .char) (yb_rm 6) [.ref (yb_ad G w), .int k] (yb_mk s X) (yb_qi X s v) := by
  refine Ct.of (own := RJ0) (ini := false) (vs := [some (.ref (yb_ad G w)), some (.int k)]) ⟨rfl, by decide +kernel⟩ (fun h => by cases h) (Nat.le_of_ble_eq_true rfl) rfl ?_
  have hs := (yb_sc_some h).1
  refine n_aload_n (i := 0) dJ0_charAt_5068e_0 rfl rfl ?_
  refine p_callTi (As := []) (t_latin hs) ct_J0_492 hs rfl rfl (Nat.le_of_ble_eq_true rfl) dJ0_charAt_5068e_1 (yb_rok (Nat.le_of_ble_eq_true rfl) (by decide)) ⟨rfl, rfl⟩ ⟨Nat.le_refl _, Nat.le_refl _⟩ (fun _ => ?_)
  refine n_if_eq 16 dJ0_charAt_5068e_4 (by decide) (fun c => absurd c (by decide)) (fun c => ?_)
  refine n_aload_n (i := 0) dJ0_charAt_5068e_7 rfl rfl ?_
  refine n_sval hs sw_val dJ0_charAt_5068e_8 ?_
  refine n_iload_n (i := 1) dJ0_charAt_5068e_11 rfl rfl ?_
  refine p_callSi (As := [.ref (yb_sv G (w - 100000)), .int k]) (t_lchr h) cs_J0_495 rfl rfl (Nat.le_of_ble_eq_true rfl) dJ0_charAt_5068e_12 (yb_rok (Nat.le_of_ble_eq_true rfl) (by decide)) ⟨rfl, rfl⟩ ⟨Nat.le_refl _, Nat.le_refl _⟩ (fun hk => ?_)
  obtain ⟨ty, e1, e2⟩ := hk
  cases e1
  exact n_iret dJ0_charAt_5068e_15 rfl e2 (Nat.le_refl _) (Nat.le_refl _) ⟨rfl, rfl⟩
/-! java/lang/Math: the kit's rows -/
def yb_abs (x : Int32) : Int32 := if 0 ≤ x then x else 0 - x
def yb_max (x y : Int32) : Int32 := if x < y then y else x
def yb_min (x y : Int32) : Int32 := if y < x then y else x
def yb_minl (x y : Int64) : Int64 := if y < x then y else x
section YMT
variable {G : yb_G} {own : String} {cc : ByteArray} {nL : Nat} {ret : Option FieldType} {ini : Bool} {R : Room} {Q : Option Value → yb_M → Prop} {ce sl pc : Nat} {vs : List (Option Value)} {st : List Value} {M : yb_M}
theorem n_mabs {index : Nat} {x : Int32} (hw : yb_cS own index Lib.Math.abs.name Lib.Math.abs.code 1 (some .int) 1) (hsum : (st.map fun v => v.category).sum ≤ 8) (hd : decode cc pc = .ok (.invokestatic index, 3)) (hR : 1 ≤ R.frames ∧ 23 ≤ R.locals) (hz : ce ≤ R.cells ∧ sl ≤ R.slots) (kk : Rn G own cc nL ret ini R Q ce sl (pc + 3) vs (.int (yb_abs x) :: st) M) : Rn G own cc nL ret ini R Q ce sl pc vs (.int x :: st) M := by
  intro p l e s m args below meth c K H locs ls hC hW hL hl hk
  have hts := hC.2.2.2.2.1
  exact va_mabs hC.1 hC.2.1 (hC.2.2.1.trans hl.1.symm) hC.2.2.2.1 (hts _ hw.2.1) (hts _ hw.2.2) (hts _ hw.1.2.1) (hts _ hw.1.1) hR.1 (by omega) hz.1 hz.2 hd (kk p l e s m args below meth c K H locs ls hC hW hL hl hk)
theorem n_mmax {index : Nat} {x y : Int32} (hw : yb_cS own index Lib.Math.max.name Lib.Math.max.code 2 (some .int) 2) (hsum : (st.map fun v => v.category).sum ≤ 8) (hd : decode cc pc = .ok (.invokestatic index, 3)) (hR : 1 ≤ R.frames ∧ 23 ≤ R.locals) (hz : ce ≤ R.cells ∧ sl ≤ R.slots) (kk : Rn G own cc nL ret ini R Q ce sl (pc + 3) vs (.int (yb_max x y) :: st) M) : Rn G own cc nL ret ini R Q ce sl pc vs (.int y :: .int x :: st) M := by
  intro p l e s m args below meth c K H locs ls hC hW hL hl hk
  have hts := hC.2.2.2.2.1
  exact va_mmax hC.1 hC.2.1 (hC.2.2.1.trans hl.1.symm) hC.2.2.2.1 (hts _ hw.2.1) (hts _ hw.2.2) (hts _ hw.1.2.1) (hts _ hw.1.1) hR.1 (by omega) hz.1 hz.2 hd (kk p l e s m args below meth c K H locs ls hC hW hL hl hk)
theorem n_mmin {index : Nat} {x y : Int32} (hw : yb_cS own index Lib.Math.min.name Lib.Math.min.code 2 (some .int) 2) (hsum : (st.map fun v => v.category).sum ≤ 8) (hd : decode cc pc = .ok (.invokestatic index, 3)) (hR : 1 ≤ R.frames ∧ 23 ≤ R.locals) (hz : ce ≤ R.cells ∧ sl ≤ R.slots) (kk : Rn G own cc nL ret ini R Q ce sl (pc + 3) vs (.int (yb_min x y) :: st) M) : Rn G own cc nL ret ini R Q ce sl pc vs (.int y :: .int x :: st) M := by
  intro p l e s m args below meth c K H locs ls hC hW hL hl hk
  have hts := hC.2.2.2.2.1
  exact va_mmin hC.1 hC.2.1 (hC.2.2.1.trans hl.1.symm) hC.2.2.2.1 (hts _ hw.2.1) (hts _ hw.2.2) (hts _ hw.1.2.1) (hts _ hw.1.1) hR.1 (by omega) hz.1 hz.2 hd (kk p l e s m args below meth c K H locs ls hC hW hL hl hk)
theorem n_mminl {index : Nat} {x y : Int64} (hw : yb_cS own index Lib.MathLoose.min_long.x Lib.MathLoose.min_long.code 4 (some .long) 2) (hsum : (st.map fun v => v.category).sum ≤ 8) (hd : decode cc pc = .ok (.invokestatic index, 3)) (hR : 1 ≤ R.frames ∧ 23 ≤ R.locals) (hz : ce ≤ R.cells ∧ sl ≤ R.slots) (kk : Rn G own cc nL ret ini R Q ce sl (pc + 3) vs (.long (yb_minl x y) :: st) M) : Rn G own cc nL ret ini R Q ce sl pc vs (.long y :: .long x :: st) M := by
  intro p l e s m args below meth c K H locs ls hC hW hL hl hk
  have hts := hC.2.2.2.2.1
  exact va_mmin_long hC.1 hC.2.1 (hC.2.2.1.trans hl.1.symm) hC.2.2.2.1 (hts _ hw.2.1) (hts _ hw.2.2) (hts _ hw.1.2.1) (hts _ hw.1.1) hR.1 (by omega) hz.1 hz.2 hd (kk p l e s m args below meth c K H locs ls hC hW hL hl hk)
end YMT
section YLW
variable {G : yb_G} {own : String} {cc : ByteArray} {nL : Nat} {ret : Option FieldType} {ini : Bool} {R : Room} {Q : Option Value → yb_M → Prop} {ce sl pc : Nat} {vs : List (Option Value)} {st : List Value} {M : yb_M}
theorem n_ldcSw {index i : Nat} {tx : String} (hs : yb_strs[i]? = some (own, index, tx)) (hd : decode cc pc = .ok (.ldc_w index, 3)) (kk : Rn G own cc nL ret ini R Q ce sl (pc + 3) vs (.ref (yb_ad G (100000 + i)) :: st) M) : Rn G own cc nL ret ini R Q ce sl pc vs st M := by
  intro p l e s m args below meth c K H locs ls hC hW hL hl hk
  have hZ : vk_R own index tx (yb_sa G i) s := hC.2.2.2.2.2.2.2.2.2.2.2.2.2.1 i _ hs
  have h := kk p l e s m args below meth c K H locs ls hC hW hL hl hk
  rw [show yb_ad G (100000 + i) = yb_sa G i from (if_neg (by omega)).trans (by rw [Nat.add_sub_cancel_left])] at h
  intro T hT X
  obtain ⟨t, a1, b1⟩ := h T hT X
  refine ⟨t, ?_, b1⟩
  obtain ⟨k, cf, i', a', hk', hcf, hcp, -, hr, hev'⟩ := Cond.stringRef_spec hC.2.2.2.1 hZ.1
  cases hZ.2.symm.trans hev'
  obtain ⟨k', hk2, he⟩ := X.warmed.alike.2.2 _ _ hk'
  have hr' : k'.resolved[index]? = some (some (.string (yb_sa G i))) := by
    rcases X.warmed.entry hk' hk2 index with h | ⟨h, -⟩
    · rw [h]; exact hr
    · rw [hr] at h; cases h
  have hexec := hC.1
  have hdg : decode c.code pc = .ok (.ldc_w index, 3) := by rw [hC.2.1]; exact hd
  jvm_step X.here [hexec, hdg, ldc_w.wp_string (e := e) (s := T) (f := F0 m pc ls st) X.here.top hk2 (by rw [he]; exact hcf) hcp hr']
  exact a1
end YLW
