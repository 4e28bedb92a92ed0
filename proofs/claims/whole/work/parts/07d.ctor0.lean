/-! CONSTRUCTORS: the memory while it is made: ints, references, how many cells -/
def yb_cs (n a : Nat) : Option yb_Sh := if a < n then yb_sh0 a else none
def yb_cm (I : Nat → Nat → Int32) (cr : Nat → Nat → Option Nat) (n : Nat) : yb_M := (I, fun _ _ => 0, cr, yb_cs n, n)
theorem yb_cs_step {n m : Nat} {f : Nat → yb_Sh} (hf : ∀ j, j < m → yb_sh0 (n + j) = some (f j)) (a : Nat) (sh : yb_Sh) (h : yb_cs (n + m) a = some sh) : yb_cs n a = some sh ∨ ∃ j, j < m ∧ a = n + j ∧ sh = f j := by
  unfold yb_cs at h ⊢
  by_cases h1 : a < n + m
  · rw [if_pos h1] at h
    by_cases h2 : a < n
    · rw [if_pos h2]
      exact Or.inl h
    · refine Or.inr ⟨a - n, by omega, by omega, ?_⟩
      have := hf (a - n) (by omega)
      rw [show n + (a - n) = a by omega, h] at this
      exact Option.some.inj this
  · rw [if_neg h1] at h
    cases h
def yb_nf : FieldType → Bool
  | .float | .double => false
  | _ => true
theorem yb_cdef {G : yb_G} {I : Nat → Nat → Int32} {cr : Nat → Nat → Option Nat} {n id k : Nat} {ty : FieldType} (hI : I id k = 0) (hR : cr id k = none) (hf : yb_nf ty = true) : yb_v G (yb_cm I cr n) ty id k = defaultValue ty := by
  cases ty <;> first | (simp [yb_nf] at hf; done) | (simp [yb_v, yb_cm, hI, hR, defaultValue, va_rf]; done)
def yb_fr (cr : Nat → Nat → Option Nat) (id n w : Nat) : Nat → Nat → Option Nat := fun a k => if a = id then (if k < n then some (id + 1 + w * k) else none) else cr a k
section YK
variable {G : yb_G} {own : String} {cc : ByteArray} {nL : Nat} {ret : Option FieldType} {ini : Bool} {R : Room} {Q : Option Value → yb_M → Prop} {ce sl pc : Nat} {vs : List (Option Value)} {st : List Value} {I : Nat → Nat → Int32} {cr : Nat → Nat → Option Nat} {id nx : Nat}
theorem c_new {idx k N : Nat} (hw : yb_nw own idx k N) (hs : yb_sh0 id = some (.inl k)) (hlim : id + 1 ≤ 100000) (hI : ∀ j, I id j = 0) (hR : ∀ j, cr id j = none) (hnf : ∀ j, j < N → yb_nf (vwTy k j) = true) (hd : decode cc pc = .ok (.new idx, 3)) (hc : ce + 1 ≤ R.cells ∧ sl + N ≤ R.slots) (kk : Rn G own cc nL ret ini R Q (ce + 1) (sl + N) (pc + 3) vs (.ref (yb_ad G id) :: st) (yb_cm I cr (id + 1))) : Rn G own cc nL ret ini R Q ce sl pc vs st (yb_cm I cr id) :=
  n_new hw rfl (yb_cm I cr (id + 1)) rfl hlim (fun _ _ _ _ => rfl) (yb_cs_step (fun j hj => by rw [show j = 0 by omega]; exact hs)) (fun j hj => yb_cdef (hI j) (hR j) (hnf j hj)) hd hc kk
theorem c_arr {atype : ArrayType} {ty : FieldType} {n : Nat} {x : Int32} (hw : Cond.arrayClass ty ∈ yb_gw) (hty : newarray.typeOf atype = ty) (ht : ty ∈ yb_tys) (hx : ¬ x < 0 ∧ x.toNatClampNeg = n) (hb : n * componentBytes ty ≤ 536870912) (hs : yb_sh0 id = some (.inr (ty, n))) (hlim : id + 1 ≤ 100000) (hI : ∀ j, I id j = 0) (hR : ∀ j, cr id j = none) (hnf : yb_nf ty = true) (hd : decode cc pc = .ok (.newarray atype, 2)) (hc : ce + 1 ≤ R.cells ∧ sl + n ≤ R.slots) (kk : Rn G own cc nL ret ini R Q (ce + 1) (sl + n) (pc + 2) vs (.ref (yb_ad G id) :: st) (yb_cm I cr (id + 1))) : Rn G own cc nL ret ini R Q ce sl pc vs (.int x :: st) (yb_cm I cr id) :=
  n_newarr hw hty ht hx hb rfl (yb_cm I cr (id + 1)) rfl hlim (fun _ _ _ _ => rfl) (yb_cs_step (fun j hj => by rw [show j = 0 by omega]; exact hs)) (fun j => yb_cdef (hI j) (hR j) hnf) hd hc kk
theorem c_anS {index n : Nat} {x : Int32} (hw : Cond.classLink own index "java/lang/String" ∈ yb_gw) (hx : ¬ x < 0 ∧ x.toNatClampNeg = n) (hb : n * 4 ≤ 536870912) (hs : yb_sh0 id = some (.inr (.object "java/lang/String", n))) (hlim : id + 1 ≤ 100000) (hR : ∀ j, cr id j = none) (hd : decode cc pc = .ok (.anewarray index, 3)) (hc : ce + 1 ≤ R.cells ∧ sl + n ≤ R.slots) (kk : Rn G own cc nL ret ini R Q (ce + 1) (sl + n) (pc + 3) vs (.ref (yb_ad G id) :: st) (yb_cm I cr (id + 1))) : Rn G own cc nL ret ini R Q ce sl pc vs (.int x :: st) (yb_cm I cr id) :=
  n_anewS hw hx hb rfl (yb_cm I cr (id + 1)) rfl hlim (fun _ _ _ _ => rfl) (yb_cs_step (fun j hj => by rw [show j = 0 by omega]; exact hs)) (fun j => by simp [yb_v, yb_cm, hR j, va_rf]) hd hc kk
theorem c_mna2 {index : Nat} {ty : FieldType} {n k : Nat} {x y : Int32} (w1 : Cond.classLink own index ("[" ++ (FieldType.array ty).toString) ∈ yb_gw) (w2 : FieldType.array ty ∈ yb_over) (w3 : Cond.arrayClass ty ∈ yb_gw) (ht : FieldType.array ty ∈ yb_tys ∧ ty ∈ yb_tys) (hp : yb_small ty = true ∨ ty = .long) (hx : ¬ x < 0 ∧ x.toNatClampNeg = n) (hy : ¬ y < 0 ∧ y.toNatClampNeg = k) (hb : n * 4 ≤ 536870912 ∧ k * componentBytes ty ≤ 536870912 ∧ k ≤ 536870912) (hdf : fits ty (defaultValue ty) = true ∧ (defaultValue ty).isDefault = true)
    (hs : ∀ j, j < 1 + n → yb_sh0 (id + j) = some (if j = 0 then .inr (.array ty, n) else .inr (ty, k))) (hlim : id + (1 + n) ≤ 100000) (hI : ∀ a j, a < n → I (id + 1 + a) j = 0) (hnf : yb_nf ty = true ∧ ty.isReference = false) (hd : decode cc pc = .ok (.multianewarray index 2, 4)) (hc : ce + (1 + n) ≤ R.cells ∧ sl + (n + n * k) ≤ R.slots)
    (kk : Rn G own cc nL ret ini R Q (ce + 1 + n) (sl + n + n * k) (pc + 4) vs (.ref (yb_ad G id) :: st) (yb_cm I (yb_fr cr id n 1) (id + (1 + n)))) : Rn G own cc nL ret ini R Q ce sl pc vs (.int y :: .int x :: st) (yb_cm I cr id) := by
  refine n_mna2 w1 w2 w3 ht hp hx hy hb hdf rfl (yb_cm I (yb_fr cr id n 1) (id + (1 + n))) rfl hlim (fun id' k ty h => ?_) (yb_cs_step hs) (fun j hj => ?_) (fun a j ha => ?_) hd hc kk
  · have h1 : ¬ id' = id := Nat.ne_of_lt (show id' < id from h)
    cases ty <;> simp [yb_v, yb_cm, yb_fr, h1]
  · simp [yb_cm, yb_fr, hj]
  · have hne : ¬ id + 1 + a = id := by omega
    cases hq : ty <;> rw [hq] at hnf <;> first | (simp [yb_nf, FieldType.isReference] at hnf; done) | (simp [yb_v, yb_cm, hI a j ha, defaultValue]; done)
theorem c_putr {idx k N j : Nat} (hini : ini = true) (hf : yb_ff own idx k N) (hsh : yb_cs nx id = some (.inl k)) (hty : (vwTy k N).isReference = true) (hd : decode cc pc = .ok (.putfield idx, 3)) (kk : Rn G own cc nL ret ini R Q ce sl (pc + 3) vs st (yb_cm I (yb_u cr id N (some j)) nx)) : Rn G own cc nL ret ini R Q ce sl pc vs (.ref (yb_ad G j) :: .ref (yb_ad G id) :: st) (yb_cm I cr nx) :=
  n_putr hini hf hsh hty (yb_cm I (yb_u cr id N (some j)) nx) rfl hd kk
theorem c_puti {idx k N : Nat} {x : Int32} (hf : yb_fp own idx k N) (hsh : yb_cs nx id = some (.inl k)) (hty : yb_small (vwTy k N) = true) (hn : narrow (vwTy k N) (.int x) = .int x) (hfit : fits (vwTy k N) (.int x) = true) (hd : decode cc pc = .ok (.putfield idx, 3)) (kk : Rn G own cc nL ret ini R Q ce sl (pc + 3) vs st (yb_cm (yb_u I id N x) cr nx)) : Rn G own cc nL ret ini R Q ce sl pc vs (.int x :: .ref (yb_ad G id) :: st) (yb_cm I cr nx) :=
  n_puti hf hsh hty hn hfit hd kk
theorem c_getr {idx k N j : Nat} (hf : yb_fl own idx k N) (hsh : yb_cs nx id = some (.inl k)) (hty : (vwTy k N).isReference = true) (hR : cr id N = some j) (hd : decode cc pc = .ok (.getfield idx, 3)) (kk : Rn G own cc nL ret ini R Q ce sl (pc + 3) vs (.ref (yb_ad G j) :: st) (yb_cm I cr nx)) : Rn G own cc nL ret ini R Q ce sl pc vs (.ref (yb_ad G id) :: st) (yb_cm I cr nx) :=
  n_getr hf hsh hty hR hd kk
theorem c_aastS {n w k : Nat} {i : Int32} {y : MethodName} (hy : y.cls = "java/lang/String" ∧ Cond.instanceMethod y ∈ yb_gw) (hs : yb_sOK w) (hsh : yb_cs nx id = some (.inr (.object "java/lang/String", n))) (hin : vp_in i n) (hk : i.toNatClampNeg = k) (hd : decode cc pc = .ok (.aastore, 1)) (kk : Rn G own cc nL ret ini R Q ce sl (pc + 1) vs st (yb_cm I (yb_u cr id k (some w)) nx)) : Rn G own cc nL ret ini R Q ce sl pc vs (.ref (yb_ad G w) :: .int i :: .ref (yb_ad G id) :: st) (yb_cm I cr nx) := by
  subst hk
  exact n_aastS hy hs hsh hin (yb_cm I (yb_u cr id i.toNatClampNeg (some w)) nx) rfl hd kk
theorem c_callI {index n maxL b c s nx' : Nat} {y : MethodName} {bytes : ByteArray} {d' : Nat} {I' : Nat → Nat → Int32} {cr' : Nat → Nat → Option Nat} {As st0 : List Value} (hM : Ct G y bytes maxL none (yb_rmA d' c s) (.ref b :: As) (yb_cm I cr nx) (fun v M' => v = none ∧ M' = yb_cm I' cr' nx')) (hw : yb_cI own index y bytes maxL n) (hn : As.length = n) (hst : st0 = As.reverse ++ .ref b :: st) (hsum : (st.map fun v => v.category).sum ≤ 8) (hd : decode cc pc = .ok (.invokespecial index, 3)) (hR : (yb_rmA d' c s).frames + 1 ≤ R.frames ∧ 8 + (maxL + 11) + (yb_rmA d' c s).locals ≤ R.locals) (hc : ce + c ≤ R.cells ∧ sl + s ≤ R.slots)
    (kk : Rn G own cc nL ret ini R Q (ce + c) (sl + s) (pc + 3) vs st (yb_cm I' cr' nx')) : Rn G own cc nL ret ini R Q ce sl pc vs st0 (yb_cm I cr nx) :=
  n_callI hM hw hn hst hsum hd hR hc (fun v M' _ hq => by obtain ⟨rfl, rfl⟩ := hq; exact kk)
theorem c_callN {index n maxL b c s nx' : Nat} {y : MethodName} {host : String} {bytes : ByteArray} {d' : Nat} {I' : Nat → Nat → Int32} {cr' : Nat → Nat → Option Nat} {As st0 : List Value} (hM : Ct G y bytes maxL none (yb_rmA d' c s) (.ref b :: As) (yb_cm I cr nx) (fun v M' => v = none ∧ M' = yb_cm I' cr' nx')) (hw : yb_cN own index y host bytes maxL n) (hn : As.length = n) (hst : st0 = As.reverse ++ .ref b :: st) (hsum : (st.map fun v => v.category).sum ≤ 8) (hd : decode cc pc = .ok (.invokespecial index, 3)) (hR : (yb_rmA d' c s).frames + 1 ≤ R.frames ∧ 8 + (maxL + 11) + (yb_rmA d' c s).locals ≤ R.locals) (hc : ce + c ≤ R.cells ∧ sl + s ≤ R.slots)
    (kk : Rn G own cc nL ret ini R Q (ce + c) (sl + s) (pc + 3) vs st (yb_cm I' cr' nx')) : Rn G own cc nL ret ini R Q ce sl pc vs st0 (yb_cm I cr nx) :=
  n_callN hM hw hn hst hsum hd hR hc (fun v M' _ hq => by obtain ⟨rfl, rfl⟩ := hq; exact kk)
end YK
def yb_fr3 (cr : Nat → Nat → Option Nat) (id n k : Nat) : Nat → Nat → Option Nat := fun a q => if a = id then (if q < n then some (id + 1 + (k + 1) * q) else none) else if id < a ∧ a < id + 1 + (k + 1) * n ∧ (a - id - 1) % (k + 1) = 0 then (if q < k then some (a + 1 + 1 * q) else none) else cr a q
theorem c_mna3 {G : yb_G} {own : String} {cc : ByteArray} {nL : Nat} {ret : Option FieldType} {ini : Bool} {R : Room} {Q : Option Value → yb_M → Prop} {ce sl pc : Nat} {vs : List (Option Value)} {st : List Value} {I : Nat → Nat → Int32} {cr : Nat → Nat → Option Nat} {id index n k z : Nat} {x y w : Int32} (w1 : Cond.classLink own index ("[" ++ (FieldType.array (.array .int)).toString) ∈ yb_gw) (w3 : Cond.arrayClass .int ∈ yb_gw) (hx : ¬ x < 0 ∧ x.toNatClampNeg = n) (hy : ¬ y < 0 ∧ y.toNatClampNeg = k) (hw : ¬ w < 0 ∧ w.toNatClampNeg = z) (hb : n * 4 ≤ 536870912 ∧ k * 4 ≤ 536870912 ∧ z * componentBytes .int ≤ 536870912 ∧ z ≤ 536870912)
    (hs : ∀ j, j < 1 + (k + 1) * n → yb_sh0 (id + j) = some (if j = 0 then .inr (.array (.array .int), n) else if (j - 1) % (k + 1) = 0 then .inr (.array .int, k) else .inr (.int, z))) (hlim : id + (1 + (k + 1) * n) ≤ 100000) (hI : ∀ a j, a < (k + 1) * n → I (id + 1 + a) j = 0) (hd : decode cc pc = .ok (.multianewarray index 3, 4)) (hc : ce + (1 + (k + 1) * n) ≤ R.cells ∧ sl + (n + n * (k + k * z)) ≤ R.slots)
    (kk : Rn G own cc nL ret ini R Q (ce + 1 + (k + 1) * n) (sl + n + n * (k + k * z)) (pc + 4) vs (.ref (yb_ad G id) :: st) (yb_cm I (yb_fr3 cr id n k) (id + (1 + (k + 1) * n)))) : Rn G own cc nL ret ini R Q ce sl pc vs (.int w :: .int y :: .int x :: st) (yb_cm I cr id) := by
  intro p l e s m args below meth c K H locs ls hC hW hL hl hk T hT Xs
  have hts := hC.2.2.2.2.1
  have hK := hC.2.2.2.2.2.2.2
  obtain ⟨hx1, rfl⟩ := hx
  obtain ⟨hy1, rfl⟩ := hy
  obtain ⟨hw1, rfl⟩ := hw
  have hH : H.size = yb_ad G id := by rw [hW.1, yb_ad_lt (by omega)]; rfl
  have hov := hK.2.2.2.2.2.2.2.2.2
  obtain ⟨cB, cA, kA, a1, a2, a3, a4⟩ := Cond.arrayOver_specA (t := .array .int) (hov (.array (.array .int)) (by decide))
  obtain ⟨cC, cB', kB, b1, b2, b3, b4⟩ := Cond.arrayOver_specA (t := .int) (hov (.array .int) (by decide))
  obtain ⟨cC', kC, dC, c1, c2, c3⟩ := Cond.arrayClass_spec (hts _ w3)
  have eC : cC' = cC := Option.some.inj (c1.symm.trans b1)
  subst eC
  have eB : cB' = cB := Option.some.inj (b4.symm.trans a1)
  subst eB
  have eA : cA = yb_ac G (.array (.array .int)) := Option.some.inj (a4.symm.trans (hK.2.1 (.array (.array .int)) (by decide)).2)
  have eB2 : cB' = yb_ac G (.array .int) := Option.some.inj (b4.symm.trans (hK.2.1 (.array .int) (by decide)).2)
  have eC2 : cC' = yb_ac G .int := Option.some.inj (c1.symm.trans (hK.2.1 .int (by decide)).2)
  subst eA
  subst eB2
  subst eC2
  obtain ⟨vm₁, L, -, hLb, X', step⟩ := yb_mna3S Xs hC.1 hC.2.2.2.1 (hts _ w1) a4 a2 a3 b2 b3 c2 c3 (g := F0 m pc ls (.int w :: .int y :: .int x :: st)) rfl (by rw [hC.2.1]; exact hd) rfl hx1 hy1 hw1 hb.1 hb.2.1 hb.2.2.1 hb.2.2.2 (by decide) (by decide) hc.1 hc.2
  have hTh : (T.setVm vm₁).heap = H := hT
  obtain ⟨f1, f2, -, -, f5, f6⟩ := yb_f3_facts (T.setVm vm₁) (yb_ac G (.array (.array .int))) (yb_ac G (.array .int)) (yb_ac G .int) x.toNatClampNeg y.toNatClampNeg w.toNatClampNeg (defaultValue .int) x.toNatClampNeg
  generalize hF : yb_f3 (T.setVm vm₁) (yb_ac G (.array (.array .int))) (yb_ac G (.array .int)) (yb_ac G .int) x.toNatClampNeg y.toNatClampNeg w.toNatClampNeg (defaultValue .int) x.toNatClampNeg = F at X' step f1 f2 f5 f6
  rw [hTh, hH] at f1 f2 f5 f6
  generalize hn : x.toNatClampNeg = n at *
  generalize hkk : y.toNatClampNeg = k at *
  generalize hzz : w.toNatClampNeg = z at *
  have hid : yb_ad G id = yb_h0 G + id := yb_ad_lt (by omega)
  have hW' : yb_W G (yb_cm I (yb_fr3 cr id n k) (id + (1 + (k + 1) * n))) F.heap := by
    refine hW.push (id := id) (m := 1 + (k + 1) * n) (f := fun j => if j = 0 then .inr (.array (.array .int), n) else if (j - 1) % (k + 1) = 0 then .inr (.array .int, k) else .inr (.int, z)) rfl rfl hlim (fun id' k ty h => ?_) (yb_cs_step hs) (by rw [f1, hH]; omega) (fun q hq => f5 q (by rw [← hH]; exact hq)) (fun j hj => ?_)
    · have h : id' < id := h
      have h1 : ¬ id' = id := Nat.ne_of_lt h
      have h2 : ¬ id < id' := by omega
      cases ty <;> simp [yb_v, yb_cm, yb_fr3, h1, h2]
    · by_cases h0 : j = 0
      · subst h0
        show F.heap[yb_ad G id]? = some (arrV _ _ _)
        rw [f2, yb_o3_eq]
        refine congrArg some (yb_arrV_ext fun i hi => ?_)
        rw [if_pos hi, yb_v_ref rfl]
        show Value.ref _ = va_rf ((yb_fr3 cr id n k (id + 0) i).map (yb_ad G))
        rw [show yb_fr3 cr id n k (id + 0) i = some (id + 1 + (k + 1) * i) by simp [yb_fr3, hi]]
        have hm : (k + 1) * i + (k + 1) ≤ (k + 1) * n := by
          have := Nat.mul_le_mul_left (k + 1) (show i + 1 ≤ n from hi)
          rw [Nat.mul_succ] at this
          exact this
        show Value.ref _ = Value.ref (yb_ad G _)
        have hB : yb_ad G (id + 1 + (k + 1) * i) = yb_h0 G + (id + 1 + (k + 1) * i) := yb_ad_lt (by omega)
        rw [hB, hid]
        have e0 : (yb_h0 G + id + 1 + (k + 1) * i : Nat) = yb_h0 G + (id + 1 + (k + 1) * i) := by omega
        exact congrArg Value.ref e0
      · have hdm := Nat.div_add_mod (j - 1) (k + 1)
        have hml := Nat.mod_lt (j - 1) (show 0 < k + 1 by omega)
        generalize ha : (j - 1) / (k + 1) = a at hdm
        generalize hq : (j - 1) % (k + 1) = q at hdm hml
        have han : a < n := by
          rcases Nat.lt_or_ge a n with h | h
          · exact h
          · have := Nat.mul_le_mul_left (k + 1) h
            omega
        obtain ⟨r1, r2⟩ := f6 a han
        rw [if_neg h0]
        by_cases hq0 : q = 0
        · rw [if_pos hq0]
          show F.heap[yb_ad G (id + j)]? = some (arrV _ _ _)
          rw [yb_ad_lt (show id + j < 100000 by omega), show yb_h0 G + (id + j) = yb_ad G id + 1 + (k + 1) * a by rw [hid]; omega, r1, vr_outer']
          refine congrArg some (yb_arrV_ext fun i hi => ?_)
          rw [if_pos hi, yb_v_ref rfl]
          show Value.ref _ = va_rf ((yb_fr3 cr id n k (id + j) i).map (yb_ad G))
          rw [show yb_fr3 cr id n k (id + j) i = some (id + j + 1 + 1 * i) by
            unfold yb_fr3
            rw [if_neg (by omega), if_pos ⟨by omega, by omega, by rw [show id + j - id - 1 = j - 1 by omega, hq]; exact hq0⟩, if_pos hi]]
          show Value.ref _ = Value.ref (yb_ad G _)
          have hm : (k + 1) * a + (k + 1) ≤ (k + 1) * n := by
            have := Nat.mul_le_mul_left (k + 1) (show a + 1 ≤ n from han)
            rw [Nat.mul_succ] at this
            exact this
          have hB : yb_ad G (id + j + 1 + 1 * i) = yb_h0 G + (id + j + 1 + 1 * i) := yb_ad_lt (by omega)
          rw [hB, hid]
          have e0 : (yb_h0 G + id + 1 + (k + 1) * a + 1 + i : Nat) = yb_h0 G + (id + j + 1 + 1 * i) := by omega
          exact congrArg Value.ref e0
        · rw [if_neg hq0]
          show F.heap[yb_ad G (id + j)]? = some (arrV _ _ _)
          have r3 := r2 (q - 1) (by omega)
          rw [yb_ad_lt (show id + j < 100000 by omega), show yb_h0 G + (id + j) = yb_ad G id + 1 + (k + 1) * a + 1 + (q - 1) by rw [hid]; omega, r3]
          show some ({ cls := _, slots := Array.replicate _ _, vm := .none } : Cell) = _
          rw [arrV_new]
          refine congrArg some (yb_arrV_ext fun i hi => ?_)
          have hI' := hI (j - 1) i (by omega)
          rw [show id + 1 + (j - 1) = id + j by omega] at hI'
          show Value.int 0 = Value.int (I (id + j) i)
          rw [hI']
  obtain ⟨t, a1, b1⟩ := kk p l e s m args below meth c K F.heap (locs ++ L) ls hC hW' (fun q hq => by
    rcases List.mem_append.mp hq with h | h
    · exact hL q h
    · have := hLb q h
      rw [hT, hH, hid] at this
      exact Nat.le_trans (Nat.le_add_right _ _) this) hl hk F rfl X'
  refine ⟨t, step t ?_, b1⟩
  have e : T.heap.size = yb_ad G id := by rw [hT, hH]
  rw [e]
  exact a1
