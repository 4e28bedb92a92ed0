/-! MAKING: objects and arrays -/
theorem yb_W.push {G : yb_G} {M M' : yb_M} {H H' : Heap} {id m : Nat} {f : Nat → yb_Sh} (hW : yb_W G M H) (hid : M.2.2.2.2 = id) (hn : M'.2.2.2.2 = id + m) (hlim : id + m ≤ 100000) (hoth : ∀ (id' k : Nat) (ty : FieldType), id' < id → yb_v G M' ty id' k = yb_v G M ty id' k)
    (hsh : ∀ (a : Nat) (sh : yb_Sh), M'.2.2.2.1 a = some sh → M.2.2.2.1 a = some sh ∨ ∃ j, j < m ∧ a = id + j ∧ sh = f j) (hz : H'.size = H.size + m) (ho : ∀ q : Nat, q < H.size → H'[q]? = H[q]?) (hcell : ∀ j, j < m → yb_cell G M' H' (id + j) (f j)) : yb_W G M' H' := by
  obtain ⟨w1, w2, w3, w4⟩ := hW
  refine ⟨by rw [hz, w1, hn, hid]; omega, by rw [hn]; exact hlim, fun q hq => ?_, fun a sh hs => ?_⟩
  · rw [ho q (by omega)]
    exact w3 q hq
  · rcases hsh a sh hs with h2 | ⟨j, h1, rfl, rfl⟩
    · have h1 : a < id := hid ▸ (w4 a sh h2).1
      refine ⟨by rw [hn]; omega, (w4 a sh h2).2.kept (fun k ty => hoth a k ty h1) (ho _ ?_)⟩
      rw [yb_ad_lt (by omega), w1, hid]
      omega
    · exact ⟨by rw [hn]; omega, hcell j h1⟩
theorem vr_outer' (c : ClassId) (N h0 : Nat) (M : Nat) : Jvm.Free.Multi.outerC c N h0 M = arrV c N (fun j => if j < M then .ref (h0 + 1 + j) else .null) := by
  induction M with
  | zero =>
    show ({ cls := c, slots := Array.replicate N .null, vm := .none } : Cell) = _
    rw [arrV_new]
    exact congrArg (arrV c N) (funext fun j => (if_neg (Nat.not_lt_zero j)).symm)
  | succ i ih =>
    show (Jvm.Free.Multi.outerC c N h0 i).setSlot i (.ref (h0 + 1 + i)) = _
    rw [ih, arrV_store]
    refine congrArg (arrV c N) (funext fun j => ?_)
    by_cases e : j = i
    · subst e
      simp [updV]
    · by_cases h : j < i
      · simp [updV, e, h, Nat.lt_succ_of_lt h]
      · simp [updV, e, h, show ¬ j < i + 1 by omega]
section YA
variable {G : yb_G} {own : String} {cc : ByteArray} {nL : Nat} {ret : Option FieldType} {ini : Bool} {R : Room} {Q : Option Value → yb_M → Prop} {ce sl pc : Nat} {vs : List (Option Value)} {st : List Value} {M : yb_M}
/-- the words of 'new' -/
def yb_nw (own : String) (idx ci N : Nat) : Prop := ∃ (C : String) (T : u_T), vwCl[ci]? = some (C, T, N) ∧ Cond.classLink own idx C ∈ yb_gw ∧ Cond.instantiable C N ∈ yb_gw ∧ Cond.initialized C ∈ yb_gw ∧ (∀ w ∈ u_ws C T N, w ∈ yb_gw) ∧ ∀ j, j < N → parseFieldDescriptor (T j).2.2.1 = some (vwTy ci j)
theorem n_new {idx ci id N : Nat} (hw : yb_nw own idx ci N) (hid : M.2.2.2.2 = id) (M' : yb_M) (hn : M'.2.2.2.2 = id + 1) (hlim : id + 1 ≤ 100000) (hoth : ∀ (id' k : Nat) (ty : FieldType), id' < id → yb_v G M' ty id' k = yb_v G M ty id' k)
    (hsh : ∀ (a : Nat) (sh : yb_Sh), M'.2.2.2.1 a = some sh → M.2.2.2.1 a = some sh ∨ ∃ j, j < 1 ∧ a = id + j ∧ sh = .inl ci) (hdef : ∀ k, k < N → yb_v G M' (vwTy ci k) id k = defaultValue (vwTy ci k)) (hd : decode cc pc = .ok (.new idx, 3)) (hc : ce + 1 ≤ R.cells ∧ sl + N ≤ R.slots)
    (kk : Rn G own cc nL ret ini R Q (ce + 1) (sl + N) (pc + 3) vs (.ref (yb_ad G id) :: st) M') : Rn G own cc nL ret ini R Q ce sl pc vs st M := by
  intro p l e s m args below meth c K H locs ls hC hW hL hl hk
  obtain ⟨C, T, w0, w1, w2, w3, w4, w5⟩ := hw
  have hts := hC.2.2.2.2.1
  have hKn := hC.2.2.2.2.2.2.2.1 ci _ w0
  have hH : H.size = yb_ad G id := by rw [hW.1, hid, yb_ad_lt (by omega)]
  refine W.newcK hC.1 hC.2.1 hC.2.2.2.1 (hts _ w1) (hts _ w2) (hts _ w3) rfl hd hc.1 hc.2 hKn.2.1 hH fun H1 kC hkC e1 z1 o1 => ?_
  refine kk p l e s m args below meth c K H1 locs ls hC (hW.push (m := 1) (f := fun _ => .inl ci) hid hn hlim hoth hsh (by rw [z1, hH]) (fun q hq => o1 q (by rw [← hH]; exact hq)) (fun j hj => ?_)) hL hl hk
  have hj0 : j = 0 := by omega
  subst hj0
  exact ⟨_, w0, (u_born (vwTy ci) hts w4 hKn hkC e1 w5).to (fun k hk => (hdef k hk).symm)⟩
theorem n_newarr {atype : ArrayType} {ty : FieldType} {id n : Nat} {x : Int32} (hw : Cond.arrayClass ty ∈ yb_gw) (hty : newarray.typeOf atype = ty) (ht : ty ∈ yb_tys) (hx : ¬ x < 0 ∧ x.toNatClampNeg = n) (hb : n * componentBytes ty ≤ 536870912) (hid : M.2.2.2.2 = id) (M' : yb_M) (hn : M'.2.2.2.2 = id + 1) (hlim : id + 1 ≤ 100000) (hoth : ∀ (id' k : Nat) (ty : FieldType), id' < id → yb_v G M' ty id' k = yb_v G M ty id' k)
    (hsh : ∀ (a : Nat) (sh : yb_Sh), M'.2.2.2.1 a = some sh → M.2.2.2.1 a = some sh ∨ ∃ j, j < 1 ∧ a = id + j ∧ sh = .inr (ty, n)) (hdef : ∀ k, yb_v G M' ty id k = defaultValue ty) (hd : decode cc pc = .ok (.newarray atype, 2)) (hc : ce + 1 ≤ R.cells ∧ sl + n ≤ R.slots)
    (kk : Rn G own cc nL ret ini R Q (ce + 1) (sl + n) (pc + 2) vs (.ref (yb_ad G id) :: st) M') : Rn G own cc nL ret ini R Q ce sl pc vs (.int x :: st) M := by
  intro p l e s m args below meth c K H locs ls hC hW hL hl hk
  have hts := hC.2.2.2.2.1
  subst hty
  have hH : H.size = yb_ad G id := by rw [hW.1, hid, yb_ad_lt (by omega)]
  refine va_newaK hC.1 hC.2.1 (hts _ hw) rfl hd rfl hx.1 hx.2 hb hc.1 hc.2 hH fun H1 cA e1 z1 o1 hAr hNm => ?_
  have hcA : cA = yb_ac G (newarray.typeOf atype) := by
    have h := (hC.2.2.2.2.2.2.2.2.1 _ ht).2
    have h2 : s.vm.findClass ("[" ++ (newarray.typeOf atype).toString) = some (yb_ac G (newarray.typeOf atype)) := by
      cases atype <;> exact h
    exact Option.some.inj (hNm.symm.trans h2)
  subst hcA
  refine kk p l e s m args below meth c K H1 locs ls hC (hW.push (m := 1) (f := fun _ => .inr (newarray.typeOf atype, n)) hid hn hlim hoth hsh (by rw [z1, hH]) (fun q hq => o1 q (by rw [← hH]; exact hq)) (fun j hj => ?_)) hL hl hk
  have hj0 : j = 0 := by omega
  subst hj0
  show H1[yb_ad G id]? = some (arrV _ n _)
  rw [e1, show (fun k => yb_v G M' (newarray.typeOf atype) (id + 0) k) = (fun _ => defaultValue (newarray.typeOf atype)) from funext hdef]
theorem n_anewS {index : Nat} {id n : Nat} {x : Int32} (hw : Cond.classLink own index "java/lang/String" ∈ yb_gw) (hx : ¬ x < 0 ∧ x.toNatClampNeg = n) (hb : n * 4 ≤ 536870912) (hid : M.2.2.2.2 = id) (M' : yb_M) (hn : M'.2.2.2.2 = id + 1) (hlim : id + 1 ≤ 100000) (hoth : ∀ (id' k : Nat) (ty : FieldType), id' < id → yb_v G M' ty id' k = yb_v G M ty id' k)
    (hsh : ∀ (a : Nat) (sh : yb_Sh), M'.2.2.2.1 a = some sh → M.2.2.2.1 a = some sh ∨ ∃ j, j < 1 ∧ a = id + j ∧ sh = .inr (.object "java/lang/String", n)) (hdef : ∀ k, yb_v G M' (.object "java/lang/String") id k = .null) (hd : decode cc pc = .ok (.anewarray index, 3)) (hc : ce + 1 ≤ R.cells ∧ sl + n ≤ R.slots)
    (kk : Rn G own cc nL ret ini R Q (ce + 1) (sl + n) (pc + 3) vs (.ref (yb_ad G id) :: st) M') : Rn G own cc nL ret ini R Q ce sl pc vs (.int x :: st) M := by
  intro p l e s m args below meth c K H locs ls hC hW hL hl hk
  have hts := hC.2.2.2.2.1
  obtain ⟨hx1, rfl⟩ := hx
  have hH : H.size = yb_ad G id := by rw [hW.1, hid, yb_ad_lt (by omega)]
  refine W.anew (C := "java/lang/String") hC.1 hC.2.1 hC.2.2.2.1 (hts _ hw) (va_AO.use (hC.2.2.2.2.2.2.2.2.2.2.2.2.2.2.2.2 (.object "java/lang/String") (by decide))) rfl hd rfl hx1 hb hc.1 hc.2 fun cA kA comp f1 f2 f3 f4 => ?_
  have hcA : cA = yb_ac G (.object "java/lang/String") := by
    obtain ⟨kA', comp', -, -, -, h4⟩ := (hC.2.2.2.2.2.2.2.2.1 (.object "java/lang/String") (by decide)).2
    exact Option.some.inj (f1.symm.trans h4)
  subst hcA
  generalize hH1 : H.push ({ cls := yb_ac G (.object "java/lang/String"), slots := Array.replicate x.toNatClampNeg .null, vm := .none } : Cell) = H1
  have z1 : H1.size = H.size + 1 := by rw [← hH1, Array.size_push]
  have e1 : H1[H.size]? = some (arrV (yb_ac G (.object "java/lang/String")) x.toNatClampNeg (fun _ => .null)) := by rw [← hH1, Array.getElem?_push_size, ← arrV_new]
  have o1 : ∀ q : Nat, q < H.size → H1[q]? = H[q]? := fun q hq => by rw [← hH1, Array.getElem?_push, if_neg (Nat.ne_of_lt hq)]
  rw [hH] at e1 ⊢
  refine kk p l e s m args below meth c K H1 locs ls hC (hW.push (m := 1) (f := fun _ => .inr (.object "java/lang/String", x.toNatClampNeg)) hid hn hlim hoth hsh z1 o1 (fun j hj => ?_)) hL hl hk
  have hj0 : j = 0 := by omega
  subst hj0
  show H1[yb_ad G id]? = some (arrV _ _ _)
  rw [e1, show (fun k => yb_v G M' (.object "java/lang/String") (id + 0) k) = (fun _ => .null) from funext hdef]
theorem n_aastS {id n w : Nat} {i : Int32} {y : MethodName} (hy : y.cls = "java/lang/String" ∧ Cond.instanceMethod y ∈ yb_gw) (hs : yb_sOK w) (hsh : M.2.2.2.1 id = some (.inr (.object "java/lang/String", n))) (hin : vp_in i n) (M' : yb_M) (hM : M' = yb_setR M id i.toNatClampNeg (some w)) (hd : decode cc pc = .ok (.aastore, 1)) (kk : Rn G own cc nL ret ini R Q ce sl (pc + 1) vs st M') : Rn G own cc nL ret ini R Q ce sl pc vs (.ref (yb_ad G w) :: .int i :: .ref (yb_ad G id) :: st) M := by
  subst hM
  intro p l e s m args below meth c K H locs ls hC hW hL hl hk
  have hK := hC.2.2.2.2.2.2.2
  obtain ⟨kA, comp, k1, k2, k3, -⟩ := (hK.2.1 (.object "java/lang/String") (by decide)).2
  obtain ⟨cell, g1, g2, g3, g4⟩ := (hK.2.2.2.2.2.1 _ (yb_sOK_lt hs)).1
  have hcc : cell.cls = comp := Option.some.inj (g3.symm.trans k3)
  obtain ⟨kC, hkC⟩ : ∃ kC : Class, s.vm.classes[comp]? = some kC := by
    obtain ⟨mk, methM, hnamed, hmethM, -, -⟩ := Cond.instanceMethod_spec (hC.2.2.2.2.1 _ hy.2)
    obtain ⟨kP, hkP, -⟩ := className_of_methodNamed hnamed
    have h1 := findClass_of_methodNamed hnamed
    rw [hy.1] at h1
    cases h1.symm.trans k3
    exact ⟨kP, hkP⟩
  refine W.aast hC.1 hC.2.1 (hW.arr hsh) (fun q h => by cases h) (fun h => by cases h) k1 k2 rfl hkC ⟨fun q => hin (Or.inl q), by rw [arrV_size]; exact yb_lt hin⟩ (by rw [yb_sOK_ad hs]; exact yb_lo hW hK.2.2.2.1 g1) (fun q h => by rw [h] at g2; cases g2) (by rw [hcc]; exact hkC) (by rw [hcc]; exact va_asg _ _) rfl rfl hd fun H' e1 e2 e3 => ?_
  refine kk p l e s m args below meth c K H' _ ls hC (hW.put (M' := yb_setR M id i.toNatClampNeg (some w)) hsh rfl (fun _ _ _ h => yb_v_setR _ _ _ h) e2 e3 ?_) (hL.put (hW.lt hsh)) hl hk
  show H'[yb_ad G id]? = _
  rw [e1, arrV_store]
  refine congrArg (fun f => some (arrV _ n f)) (funext fun q => ?_)
  by_cases hq : q = i.toNatClampNeg
  · subst hq
    simp [updV, yb_v, yb_setR, yb_u, va_rf]
  · simp [updV, yb_v, yb_setR, yb_u, hq]
theorem n_putr {idx ci k id j : Nat} (hini : ini = true) (hf : yb_ff own idx ci k) (hsh : M.2.2.2.1 id = some (.inl ci)) (hty : (vwTy ci k).isReference = true) (M' : yb_M) (hM : M' = yb_setR M id k (some j)) (hd : decode cc pc = .ok (.putfield idx, 3)) (kk : Rn G own cc nL ret ini R Q ce sl (pc + 3) vs st M') : Rn G own cc nL ret ini R Q ce sl pc vs (.ref (yb_ad G j) :: .ref (yb_ad G id) :: st) M := by
  subst hM
  intro p l e s m args below meth c K H locs ls hC hW hL hl hk
  obtain ⟨⟨C, T, N⟩, f1, f2, f3, f4, f5, f5b, f6, f7⟩ := hf
  obtain ⟨hx, hb, hml, hown, hts, hr, hi, hK⟩ := _root_.id hC
  obtain ⟨q, h1, cell, q1, q2, q3, q4⟩ := (hW.2.2.2 id _ hsh).2
  have hq : q = (C, T, N) := Option.some.inj (h1.symm.trans f1)
  subst hq
  have hap : ∀ x y, x < N → y < N → x ≠ y → ((yb_D G).2 ci) x ≠ ((yb_D G).2 ci) y := by
    intro x y hx hy hne
    obtain ⟨hS, -⟩ := hK.1 ci _ f1
    obtain ⟨_, _, _, fa, hia, ea⟩ := hS x hx
    obtain ⟨_, _, _, fb, hib, eb⟩ := hS y hy
    rw [← ea, ← eb]
    refine u_apart (u_lays hts f3 hx) (u_lays hts f3 hy) hia hib ?_
    rw [(State.fieldFound?_type hia (f6 x hx)).1, (State.fieldFound?_type hib (f6 y hy)).1]
    exact f7 x hx y hy hne
  obtain ⟨hS, hfc, kC, hkC, hkind⟩ := hK.1 ci _ f1
  obtain ⟨cf, kf, fi, f, hfi, hsl⟩ := hS k f2
  have hlay := hts _ (f3 _ (u_in_lay f2))
  unfold u_lay at hlay
  rw [if_pos f5] at hlay
  have hst := (u_facts hfc hkC (u_lays hts f3 f2) hfi).1
  have hcf : m.cls = cf := by
    obtain ⟨_, _, c', _, _, _, -, -, hf', -, -, -, hown2, -⟩ := Cond.laysFinal_spec hlay
    have e1 : c' = cf := by have := hfi.symm.trans hf'; simp at this; exact this.1.symm
    rw [f5b] at hown2
    rw [← e1]; exact Option.some.inj (hown.symm.trans hown2)
  have hnr : narrow (vwTy ci k) (.ref (yb_ad G j)) = .ref (yb_ad G j) ∧ fits (vwTy ci k) (.ref (yb_ad G j)) = true := by
    cases hz : vwTy ci k <;> rw [hz] at hty <;> first | exact ⟨rfl, rfl⟩ | (simp [FieldType.isReference] at hty)
  have h6 := u_fits hfc hkC hkind (Or.inr hlay) hfi (f6 k f2) hnr.1 hnr.2
  refine W.putFinK hx hb hown (hts _ f4) hfi hst hcf (hi hini) (by rw [q2]; exact h6) q1 q3 (by rw [hsl]; exact k2_hasslot (q4 k f2)) rfl rfl hd fun H' e1 e2 e3 => ?_
  rw [hsl] at e1
  refine kk p l e s m args below meth c K H' _ ls hC (hW.put (M' := yb_setR M id k (some j)) hsh rfl (fun _ _ _ h => yb_v_setR _ _ _ h) e2 e3 ⟨_, f1, t_OB.to (V := updV (fun j => yb_v G M (vwTy ci j) id j) k (.ref (yb_ad G j))) ⟨_, e1, q2, q3, t_set q4 hap f2 _⟩ (fun j' _ => ?_)⟩) (hL.put (hW.lt hsh)) hl hk
  by_cases hj : j' = k
  · subst hj
    rw [yb_v_ref hty]
    simp [updV, yb_setR, yb_u, va_rf]
  · simp only [updV, if_neg hj]
    cases hc : vwTy ci j' <;> simp [yb_v, yb_setR, yb_u, hj]
theorem n_objInit {idx : Nat} {a : Nat} (hw : Cond.methodLink own idx objectInit ∈ yb_gw ∧ Cond.instanceMethod objectInit ∈ yb_gw ∧ Cond.code objectInit ⟨#[0xb1]⟩ 1 none ∈ yb_gw) (hd : decode cc pc = .ok (.invokespecial idx, 3)) (hR : 1 ≤ R.frames ∧ 20 ≤ R.locals) (hsum : (st.map fun v => v.category).sum ≤ 8) (kk : Rn G own cc nL ret ini R Q ce sl (pc + 3) vs st M) : Rn G own cc nL ret ini R Q ce sl pc vs (.ref a :: st) M := by
  intro p l e s m args below meth c K H locs ls hC hW hL hl hk
  have hts := hC.2.2.2.2.1
  exact W.objInit hC.1 hC.2.1 hC.2.2.2.1 (hts _ hw.1) (hts _ hw.2.1) (hts _ hw.2.2) rfl (by rw [hC.2.2.1]; exact hl.1) rfl hd hR.1 (by have := lv_room (m := m) (pc := pc) (ls := ls) (rest := .ref a :: st) hsum; omega) (kk p l e s m args below meth c K H locs ls hC hW hL hl hk)
theorem yb_arrV_ext {c : ClassId} {n : Nat} {f g : Nat → Value} (h : ∀ k, k < n → f k = g k) : arrV c n f = arrV c n g := by
  unfold arrV
  congr 1
  exact congrArg Array.ofFn (funext fun j => h j.val j.isLt)
theorem n_mna2 {index : Nat} {ty : FieldType} {id n k : Nat} {x y : Int32} (w1 : Cond.classLink own index ("[" ++ (FieldType.array ty).toString) ∈ yb_gw) (w2 : FieldType.array ty ∈ yb_over) (w3 : Cond.arrayClass ty ∈ yb_gw) (ht : FieldType.array ty ∈ yb_tys ∧ ty ∈ yb_tys) (hp : yb_small ty = true ∨ ty = .long) (hx : ¬ x < 0 ∧ x.toNatClampNeg = n) (hy : ¬ y < 0 ∧ y.toNatClampNeg = k) (hb : n * 4 ≤ 536870912 ∧ k * componentBytes ty ≤ 536870912 ∧ k ≤ 536870912) (hdf : fits ty (defaultValue ty) = true ∧ (defaultValue ty).isDefault = true)
    (hid : M.2.2.2.2 = id) (M' : yb_M) (hn : M'.2.2.2.2 = id + (1 + n)) (hlim : id + (1 + n) ≤ 100000) (hoth : ∀ (id' k : Nat) (ty : FieldType), id' < id → yb_v G M' ty id' k = yb_v G M ty id' k)
    (hsh : ∀ (a : Nat) (sh : yb_Sh), M'.2.2.2.1 a = some sh → M.2.2.2.1 a = some sh ∨ ∃ j, j < 1 + n ∧ a = id + j ∧ sh = if j = 0 then .inr (.array ty, n) else .inr (ty, k)) (hR : ∀ j, j < n → M'.2.2.1 id j = some (id + 1 + j)) (hdef : ∀ a j, a < n → yb_v G M' ty (id + 1 + a) j = defaultValue ty) (hd : decode cc pc = .ok (.multianewarray index 2, 4)) (hc : ce + (1 + n) ≤ R.cells ∧ sl + (n + n * k) ≤ R.slots)
    (kk : Rn G own cc nL ret ini R Q (ce + 1 + n) (sl + n + n * k) (pc + 4) vs (.ref (yb_ad G id) :: st) M') : Rn G own cc nL ret ini R Q ce sl pc vs (.int y :: .int x :: st) M := by
  intro p l e s m args below meth c K H locs ls hC hW hL hl hk T hT Xs
  have hts := hC.2.2.2.2.1
  have hK := hC.2.2.2.2.2.2.2
  obtain ⟨hx1, rfl⟩ := hx
  obtain ⟨hy1, rfl⟩ := hy
  have hH : H.size = yb_ad G id := by rw [hW.1, hid, yb_ad_lt (by omega)]
  obtain ⟨vm₁, cA, comp, -, fA, fC, hO, -, X', step⟩ := Xs.multianewarray2F hC.1 hC.2.2.2.1 (hts _ w1) (hK.2.2.2.2.2.2.2.2.2 _ w2) (hts _ w3) (g := F0 m pc ls (.int y :: .int x :: st)) rfl (by rw [hC.2.1]; exact hd) rfl hx1 hy1 hb.1 hb.2.1 hb.2.2 hdf.1 hdf.2 hc.1 hc.2
  have ecA : cA = yb_ac G (.array ty) := Option.some.inj (fA.symm.trans (hK.2.1 _ ht.1).2)
  have ecC : comp = yb_ac G ty := by
    have h := (hK.2.1 _ ht.2).2
    have h2 : s.vm.findClass ("[" ++ ty.toString) = some (yb_ac G ty) := by
      rcases hp with hp | rfl
      · cases ty <;> first | exact h | (simp [yb_small] at hp)
      · exact h
    exact Option.some.inj (fC.symm.trans h2)
  subst ecA
  subst ecC
  generalize hF : Jvm.Free.Multi.fill (T.setVm vm₁) (yb_ac G (.array ty)) (yb_ac G ty) x.toNatClampNeg y.toNatClampNeg (defaultValue ty) x.toNatClampNeg = F at X' step
  have hTh : (T.setVm vm₁).heap = H := hT
  obtain ⟨f1, f2, -, -⟩ := Jvm.Free.Multi.fill_facts (T.setVm vm₁) (yb_ac G (.array ty)) (yb_ac G ty) x.toNatClampNeg y.toNatClampNeg (defaultValue ty) x.toNatClampNeg
  rw [hF, hTh] at f1 f2
  have hold : ∀ q : Nat, q < H.size → F.heap[q]? = H[q]? := fun q hq => by
    have := Jvm.Free.Multi.fill_old (T.setVm vm₁) (yb_ac G (.array ty)) (yb_ac G ty) x.toNatClampNeg y.toNatClampNeg (defaultValue ty) (a := q) (by rw [hTh]; exact hq) x.toNatClampNeg
    rw [hF, hTh] at this
    exact this
  have hrow : ∀ j : Nat, j < x.toNatClampNeg → F.heap[H.size + 1 + j]? = some (Jvm.Free.Multi.innerC (yb_ac G ty) y.toNatClampNeg (defaultValue ty)) := fun j hj => by
    have := Jvm.Free.Multi.fill_inner (T.setVm vm₁) (yb_ac G (.array ty)) (yb_ac G ty) x.toNatClampNeg y.toNatClampNeg (defaultValue ty) x.toNatClampNeg j hj
    rw [hF, hTh] at this
    exact this
  have hW' : yb_W G M' F.heap := by
    refine hW.push (m := 1 + x.toNatClampNeg) (f := fun j => if j = 0 then .inr (.array ty, x.toNatClampNeg) else .inr (ty, y.toNatClampNeg)) hid hn hlim hoth hsh (by rw [f1]; omega) hold (fun j hj => ?_)
    by_cases h0 : j = 0
    · subst h0
      show F.heap[yb_ad G id]? = some (arrV _ _ _)
      rw [← hH, f2, vr_outer']
      refine congrArg some (yb_arrV_ext fun i hi => ?_)
      rw [if_pos hi]
      have hA : yb_ad G id = yb_h0 G + id := yb_ad_lt (by omega)
      have hB : yb_ad G (id + 1 + i) = yb_h0 G + (id + 1 + i) := yb_ad_lt (by omega)
      show Value.ref (H.size + 1 + i) = yb_v G M' (.array ty) id i
      rw [yb_v_ref rfl, hR i hi]
      show Value.ref (H.size + 1 + i) = Value.ref (yb_ad G (id + 1 + i))
      rw [hB, hH, hA]
      have e0 : (yb_h0 G + id + 1 + i : Nat) = yb_h0 G + (id + 1 + i) := by omega
      exact congrArg Value.ref e0
    · rw [if_neg h0]
      show F.heap[yb_ad G (id + j)]? = some (arrV _ _ _)
      have hj2 := hrow (j - 1) (by omega)
      rw [hH, yb_ad_lt (show id < 100000 by omega), show yb_h0 G + id + 1 + (j - 1) = yb_h0 G + (id + j) by omega] at hj2
      rw [yb_ad_lt (by omega), hj2]
      show some ({ cls := _, slots := Array.replicate _ _, vm := .none } : Cell) = _
      rw [arrV_new]
      refine congrArg some (yb_arrV_ext fun i hi => ?_)
      have := hdef (j - 1) i (by omega)
      rw [show id + 1 + (j - 1) = id + j by omega] at this
      exact this.symm
  obtain ⟨t, a1, b1⟩ := kk p l e s m args below meth c K F.heap locs ls hC hW' hL hl hk F rfl X'
  refine ⟨t, step t ?_, b1⟩
  have e : T.heap.size = yb_ad G id := by rw [hT, hH]
  rw [e]
  exact a1
def yb_zI (s : yb_S) (id : Nat) : yb_S := (fun a => if a = id then fun _ => 0 else s.1 a, s.2)
def yb_zL (s : yb_S) (id : Nat) : yb_S := (s.1, fun a => if a = id then fun _ => 0 else s.2 a)
theorem yb_sh_new {X : List (FieldType × Nat)} {nx n : Nat} {ty : FieldType} {s : yb_S} (h : 603 + X.length = nx) : (yb_mk s (X ++ [(ty, n)])).2.2.2.1 nx = some (.inr (ty, n)) := by
  subst h
  show yb_shX (X ++ [(ty, n)]) (603 + X.length) = _
  unfold yb_shX
  rw [if_neg (by omega), Nat.add_sub_cancel_left]
  simp
theorem yb_shX_app {X : List (FieldType × Nat)} {nx n a : Nat} {ty : FieldType} {sh : yb_Sh} (hx : 603 + X.length = nx) (h : yb_shX (X ++ [(ty, n)]) a = some sh) : yb_shX X a = some sh ∨ ∃ j, j < 1 ∧ a = nx + j ∧ sh = .inr (ty, n) := by
  unfold yb_shX at h ⊢
  by_cases h1 : a < 603
  · rw [if_pos h1] at h ⊢
    exact Or.inl h
  · rw [if_neg h1] at h ⊢
    by_cases h2 : a - 603 < X.length
    · rw [List.getElem?_append_left h2] at h
      exact Or.inl h
    · rw [List.getElem?_append_right (by omega)] at h
      have hz : a - 603 - X.length < 1 := by
        cases hq : [(ty, n)][a - 603 - X.length]? with
        | none => rw [hq] at h; cases h
        | some q => exact (List.getElem?_eq_some_iff.mp hq).1
      rw [show a - 603 - X.length = 0 by omega] at h
      refine Or.inr ⟨0, by omega, by omega, ?_⟩
      simp at h
      exact h.symm
def yb_qa (Lx : Nat) (out : Int32 × yb_S) : Option Value → yb_M → Prop := fun v M' => v = some (.int out.1) ∧ ∃ X' : List (FieldType × Nat), M' = yb_mk out.2 X' ∧ X'.length ≤ Lx
def yb_rmA (d c s : Nat) : Room := { frames := d, cells := c, slots := s, locals := 64 * d }
theorem yb_rokA {d d' m c s : Nat} (h : d' + 1 ≤ d) (hm : m ≤ 45) : (yb_rm d').frames + 1 ≤ (yb_rmA d c s).frames ∧ 8 + (m + 11) + (yb_rm d').locals ≤ (yb_rmA d c s).locals := by
  simp only [yb_rm, yb_rmA]
  omega
theorem p_newint {s : yb_S} {X : List (FieldType × Nat)} {nx n : Nat} {x : Int32} (hw : Cond.arrayClass .int ∈ yb_gw) (hnx : 603 + X.length = nx) (hlim : nx + 1 ≤ 100000) (hb : n * componentBytes .int ≤ 536870912) (hx : ¬ x < 0 ∧ x.toNatClampNeg = n) (hd : decode cc pc = .ok (.newarray .int, 2)) (hc : ce + 1 ≤ R.cells ∧ sl + n ≤ R.slots)
    (kk : Rn G own cc nL ret ini R Q (ce + 1) (sl + n) (pc + 2) vs (.ref (yb_ad G nx) :: st) (yb_mk (yb_zI s nx) (X ++ [(.int, n)]))) : Rn G own cc nL ret ini R Q ce sl pc vs (.int x :: st) (yb_mk s X) := by
  refine n_newarr (ty := .int) hw rfl (by decide) hx hb hnx (yb_mk (yb_zI s nx) (X ++ [(FieldType.int, n)])) (by show 603 + (X ++ [(FieldType.int, n)]).length = _; rw [List.length_append]; simp; omega) hlim (fun id' k ty h => ?_) (fun a sh h => yb_shX_app hnx (show yb_shX (X ++ [(.int, n)]) a = some sh from h)) (fun k => ?_) hd hc kk
  · cases ty <;> simp [yb_v, yb_mk, yb_zI, Nat.ne_of_lt h]
  · simp [yb_v, yb_mk, yb_zI, defaultValue]
theorem p_newlong {s : yb_S} {X : List (FieldType × Nat)} {nx n : Nat} {x : Int32} (hw : Cond.arrayClass .long ∈ yb_gw) (hnx : 603 + X.length = nx) (hlim : nx + 1 ≤ 100000) (hb : n * componentBytes .long ≤ 536870912) (hx : ¬ x < 0 ∧ x.toNatClampNeg = n) (hd : decode cc pc = .ok (.newarray .long, 2)) (hc : ce + 1 ≤ R.cells ∧ sl + n ≤ R.slots)
    (kk : Rn G own cc nL ret ini R Q (ce + 1) (sl + n) (pc + 2) vs (.ref (yb_ad G nx) :: st) (yb_mk (yb_zL s nx) (X ++ [(.long, n)]))) : Rn G own cc nL ret ini R Q ce sl pc vs (.int x :: st) (yb_mk s X) := by
  refine n_newarr (ty := .long) hw rfl (by decide) hx hb hnx (yb_mk (yb_zL s nx) (X ++ [(FieldType.long, n)])) (by show 603 + (X ++ [(FieldType.long, n)]).length = _; rw [List.length_append]; simp; omega) hlim (fun id' k ty h => ?_) (fun a sh h => yb_shX_app hnx (show yb_shX (X ++ [(.long, n)]) a = some sh from h)) (fun k => ?_) hd hc kk
  · cases ty <;> simp [yb_v, yb_mk, yb_zL, Nat.ne_of_lt h]
  · simp [yb_v, yb_mk, yb_zL, defaultValue]
end YA
theorem wA_int : Cond.arrayClass .int ∈ yb_gw := (yb_gw_in (yb_t1 _ (List.mem_of_getElem? (i := 91) rfl)) rfl)
theorem wA_long : Cond.arrayClass .long ∈ yb_gw := (yb_gw_in (yb_t1 _ (List.mem_of_getElem? (i := 93) rfl)) rfl)
theorem wA_boolean : Cond.arrayClass .boolean ∈ yb_gw := (yb_gw_in (yb_t1 _ (List.mem_of_getElem? (i := 92) rfl)) rfl)
theorem wA_byte : Cond.arrayClass .byte ∈ yb_gw := (yb_gw_in (yb_t4 _ (List.mem_of_getElem? (i := 168) rfl)) rfl)
