/-! FOUNDATION: a light judgement over the machine. G: the law's run (classes, addresses); M: a typed memory by cell numbers; Rn: from this frame, over this memory, the method comes to a return that Q tells of. -/
abbrev yb_G : Type := va_G × (FieldType → ClassId) × Nat × (Nat → Nat) × (Nat → Nat) × Heap × Nat × Nat × (Nat → Int32)
abbrev yb_D (G : yb_G) : va_G := G.1
abbrev yb_ac (G : yb_G) : FieldType → ClassId := G.2.1
abbrev yb_h0 (G : yb_G) : Nat := G.2.2.1
abbrev yb_sa (G : yb_G) : Nat → Nat := G.2.2.2.1
abbrev yb_sv (G : yb_G) : Nat → Nat := G.2.2.2.2.1
abbrev yb_H0 (G : yb_G) : Heap := G.2.2.2.2.2.1
abbrev yb_b (G : yb_G) : Nat := G.2.2.2.2.2.2.1
abbrev yb_n (G : yb_G) : Nat := G.2.2.2.2.2.2.2.1
abbrev yb_xs (G : yb_G) : Nat → Int32 := G.2.2.2.2.2.2.2.2
/-- the real address of a cell: below 100000 one that the run made, else a String constant -/
def yb_ad (G : yb_G) (id : Nat) : Nat := if id < 100000 then yb_h0 G + id else yb_sa G (id - 100000)
abbrev yb_Sh : Type := Nat ⊕ (FieldType × Nat)
/-- ints, longs, references; what a cell is; how many there are -/
abbrev yb_M : Type := (Nat → Nat → Int32) × (Nat → Nat → Int64) × (Nat → Nat → Option Nat) × (Nat → Option yb_Sh) × Nat
def yb_v (G : yb_G) (M : yb_M) (ty : FieldType) (id k : Nat) : Value := match ty with
  | .long => .long (M.2.1 id k)
  | .object _ => va_rf ((M.2.2.1 id k).map (yb_ad G))
  | .array _ => va_rf ((M.2.2.1 id k).map (yb_ad G))
  | _ => .int (M.1 id k)
def yb_old (G : yb_G) (q : Nat) : Prop := yb_h0 G ≤ q
def yb_cell (G : yb_G) (M : yb_M) (H : Heap) (id : Nat) (sh : yb_Sh) : Prop := match sh with
  | .inl ci => ∃ q : vw_C, vwCl[ci]? = some q ∧ t_OB (yb_ad G id) ((yb_D G).1 ci) q.2.2 ((yb_D G).2 ci) H (fun k => yb_v G M (vwTy ci k) id k)
  | .inr x => H[yb_ad G id]? = some (arrV (yb_ac G x.1) x.2 (fun k => yb_v G M x.1 id k))
/-- the heap holds the memory -/
def yb_W (G : yb_G) (M : yb_M) (H : Heap) : Prop := H.size = yb_h0 G + M.2.2.2.2 ∧ M.2.2.2.2 ≤ 100000 ∧ (∀ q : Nat, q < yb_h0 G → H[q]? = (yb_H0 G)[q]?) ∧ ∀ (id : Nat) (sh : yb_Sh), M.2.2.2.1 id = some sh → id < M.2.2.2.2 ∧ yb_cell G M H id sh
def yb_tys : List FieldType := [.int, .long, .boolean, .byte, .array .int, .array .long, .array (.array .int), .object "java/lang/String"]
def yb_strO (G : yb_G) (U : State) (i : Nat) : Prop := va_O "java/lang/String" (yb_sa G i) (yb_old G) U (yb_H0 G) ∧ va_OF "java/lang/String" "coder" "B" (.int 0) (yb_sa G i) (yb_old G) U (yb_H0 G) ∧ va_OF "java/lang/String" "value" "[B" (.ref (yb_sv G i)) (yb_sa G i) (yb_old G) U (yb_H0 G) ∧ va_T .byte (yb_sv G i) (yb_len i) (fun j => .int (yb_chr i j)) (yb_old G) U (yb_H0 G)
theorem yb_over_moved {t : FieldType} {u U : State} (hvm : u.vm.Alike U.vm) (h : (Cond.arrayOver t).before #[] u = true) : (Cond.arrayOver t).before #[] U = true := by
  have key : ∀ (comp : ClassId), ((u.vm.classes.findIdx? fun (x : Class) => match x.kind with | .array component _ => component == comp | _ => false).bind fun c => (u.vm.classes[c]?).map fun (k : Class) => match k.kind with
      | .array _ ty => decide (ty = t) && decide (u.vm.findClass ("[" ++ t.toString) = some c)
      | _ => false) = some true → ((U.vm.classes.findIdx? fun (x : Class) => match x.kind with | .array component _ => component == comp | _ => false).bind fun c => (U.vm.classes[c]?).map fun (k : Class) => match k.kind with
      | .array _ ty => decide (ty = t) && decide (U.vm.findClass ("[" ++ t.toString) = some c)
      | _ => false) = some true := by
    intro comp h
    obtain ⟨c, hi, h2⟩ := Option.bind_eq_some_iff.mp h
    obtain ⟨k, hk, h3⟩ := Option.map_eq_some_iff.mp h2
    obtain ⟨k', hk', he⟩ := hvm.2.2 _ _ hk
    have hi' : (U.vm.classes.findIdx? fun (x : Class) => match x.kind with | .array component _ => component == comp | _ => false) = some c := by
      refine (va_idx_bare U.vm comp).symm.trans (Eq.trans ?_ ((va_idx_bare u.vm comp).trans hi))
      first | rw [hvm.bare_eq] | rw [← hvm.bare_eq]
    have hkk : k'.kind = k.kind := by rw [he]
    rw [hi', Option.bind_some, hk', Option.map_some, hkk, hvm.findClass]
    exact congrArg some h3
  cases t with
  | object n =>
    unfold Cond.before Cond.holds at h ⊢
    simp only [Cond.value] at h ⊢
    rw [hvm.findClass]
    have h := eq_of_beq h
    cases hc : u.vm.findClass n with
    | none => rw [hc] at h; cases h
    | some comp => rw [hc] at h; exact beq_iff_eq.mpr (key comp h)
  | array t' =>
    unfold Cond.before Cond.holds at h ⊢
    simp only [Cond.value] at h ⊢
    rw [hvm.findClass]
    have h := eq_of_beq h
    cases hc : u.vm.findClass (FieldType.array t').toString with
    | none => rw [hc] at h; cases h
    | some comp => rw [hc] at h; exact beq_iff_eq.mpr (key comp h)
  | _ => exact absurd (eq_of_beq h) (by intro z; cases z)
def yb_over : List FieldType := [.array .int, .array .long, .array (.array .int), .object "java/lang/String"]
/-- what the tables say, at any state of the run -/
def yb_K (G : yb_G) (U : State) : Prop := (∀ (c : Nat) (q : vw_C), vwCl[c]? = some q → u_Kn U q.1 q.2.1 q.2.2 ((yb_D G).1 c) ((yb_D G).2 c)) ∧ (∀ ty ∈ yb_tys, ArrOfT U (yb_ac G ty) ty ∧ va_RA U (yb_ac G ty) ty) ∧ (∀ w ∈ yb_nest, va_Nw w U) ∧ (yb_H0 G).size = yb_h0 G ∧
  (va_X (yb_b G) (yb_n G) (yb_xs G) U (yb_H0 G) ∧ yb_b G < yb_h0 G) ∧ (∀ i, i < yb_strs.length → yb_strO G U i) ∧ (∀ (i : Nat) (q : String × Nat × String), yb_strs[i]? = some q → vk_R q.1 q.2.1 q.2.2 (yb_sa G i) U) ∧
  va_Z "java/lang/String" "COMPACT_STRINGS" "Z" (.int 1) (yb_old G) U (yb_H0 G) ∧ va_Zq "jdk/internal/util/Preconditions" "SIOOBE_FORMATTER" "Ljava/util/function/BiFunction;" (yb_old G) U (yb_H0 G) ∧ ∀ t ∈ yb_over, (Cond.arrayOver t).before #[] U = true
theorem yb_K.warm {G : yb_G} {s U : State} (hW : s.WarmedH U.vm) (h : yb_K G s) : yb_K G U := by
  obtain ⟨h1, h2, h3, h4, h5, h6, h7, h8, h9, h10⟩ := h
  refine ⟨fun c q hq => u_Kn_moved hW.alike (h1 c q hq), fun ty ht => ⟨arrOfT_moved hW.alike (h2 ty ht).1, (h2 ty ht).2.moved hW.alike⟩, fun w hw => ?_, h4, ⟨h5.1.moved hW.alike, h5.2⟩, fun i hi => ⟨(h6 i hi).1.moved hW.alike, (h6 i hi).2.1.moved hW.alike, (h6 i hi).2.2.1.moved hW.alike, (h6 i hi).2.2.2.moved hW.alike⟩, fun i q hq => (h7 i q hq).warm hW, h8.moved hW.alike, h9.moved hW.alike, fun t ht => yb_over_moved hW.alike (h10 t ht)⟩
  have h := h3 w hw
  obtain ⟨q, rfl⟩ := yb_nest_form w hw
  exact va_Nw.warmM hW h
theorem yb_K.blind {G : yb_G} {U : State} {g : JFrame} {mk : MethodId} {a : Array Value} (h : yb_K G U) : yb_K G (U.calling g mk a) := by
  obtain ⟨h1, h2, h3, h4, h5, h6, h7, h8, h9, h10⟩ := h
  have hA : U.vm.Alike (U.calling g mk a).vm := Vm.Alike.refl U.vm
  refine ⟨fun c q hq => u_Kn_moved hA (h1 c q hq), fun ty ht => ⟨arrOfT_moved hA (h2 ty ht).1, (h2 ty ht).2.moved hA⟩, fun w hw => ?_, h4, ⟨h5.1.moved hA, h5.2⟩, fun i hi => ⟨(h6 i hi).1.moved hA, (h6 i hi).2.1.moved hA, (h6 i hi).2.2.1.moved hA, (h6 i hi).2.2.2.moved hA⟩, fun i q hq => (h7 i q hq).same rfl, h8.moved hA, h9.moved hA, fun t ht => yb_over_moved hA (h10 t ht)⟩
  have h := h3 w hw
  obtain ⟨q, rfl⟩ := yb_nest_form w hw
  exact va_Nw.same rfl rfl h
/-- the good words of the tables -/
def yb_gw : List Cond := lw_tbl.filter goodWord
theorem yb_gw_at {w : Cond} (i : Nat) (h : lw_tbl[i]? = some w) (hg : goodWord w = true) : w ∈ yb_gw := List.mem_filter.mpr ⟨List.mem_of_getElem? h, hg⟩
theorem yb_gw_good {ws : List Cond} (h : ∀ w ∈ ws, w ∈ yb_gw) : GoodIn yb_gw ws := fun w hw => ⟨h w hw, good_of_word (List.mem_filter.mp (h w hw)).2⟩
theorem yb_gw_sub {args : Array Value} {s : State} (h : ∀ w ∈ lw_tbl, w.before args s = true) : ∀ w ∈ yb_gw, w.before args s = true := fun w hw => h w (List.mem_filter.mp hw).1
/-- a method's own frame: what does not change while it runs -/
def yb_C (G : yb_G) (own : String) (cc : ByteArray) (nL : Nat) (ret : Option FieldType) (ini : Bool) (p : Program) (s : State) (m : MethodId) (args : Array Value) (meth : Method) (c : Code) : Prop :=
  p.tables.exec = Jvm.exec ∧ c.code = cc ∧ c.maxLocals = nL ∧ s.vm.findClass own = some m.cls ∧ (∀ w ∈ yb_gw, w.before args s = true) ∧ meth.sig.returnType = ret ∧ (ini = true → meth.name = "<init>") ∧ yb_K G s
/-- the values of the locals, by place -/
def yb_ix : Nat → List (Option Value) → List (Nat × Value)
  | _, [] => []
  | i, none :: l => yb_ix (i + 1) l
  | i, some v :: l => (i, v) :: yb_ix (i + 1) l
theorem yb_ix_mem {l : List (Option Value)} : ∀ {i : Nat} {q : Nat × Value}, q ∈ yb_ix i l ↔ ∃ k, q.1 = i + k ∧ l[k]? = some (some q.2) := by
  induction l with
  | nil => intro i q; simp [yb_ix]
  | cons a l ih =>
    intro i q
    cases a with
    | none =>
      rw [yb_ix, ih]
      constructor
      · rintro ⟨k, h1, h2⟩; exact ⟨k + 1, by omega, by simpa using h2⟩
      · rintro ⟨k, h1, h2⟩
        cases k with
        | zero => simp at h2
        | succ k => exact ⟨k, by omega, by simpa using h2⟩
    | some v =>
      rw [yb_ix, List.mem_cons, ih]
      constructor
      · rintro (rfl | ⟨k, h1, h2⟩)
        · exact ⟨0, by simp, by simp⟩
        · exact ⟨k + 1, by omega, by simpa using h2⟩
      · rintro ⟨k, h1, h2⟩
        cases k with
        | zero => left; obtain ⟨a, b⟩ := q; simp at h1 h2; subst h1; subst h2; rfl
        | succ k => right; exact ⟨k, by omega, by simpa using h2⟩
def yb_L (ls : Array Slot) (nL : Nat) (vs : List (Option Value)) : Prop := lv_has ls nL (yb_ix 0 vs)
theorem yb_L.at {ls : Array Slot} {nL : Nat} {vs : List (Option Value)} (h : yb_L ls nL vs) {i : Nat} {v : Value} (hi : vs[i]? = some (some v)) : ls[i]? = some (.val v) :=
  h.2.2 (i, v) (yb_ix_mem.mpr ⟨i, by simp, hi⟩)
theorem yb_L.mono {ls : Array Slot} {nL : Nat} {vs ws : List (Option Value)} (h : yb_L ls nL vs) (hs : ∀ (i : Nat) (v : Value), ws[i]? = some (some v) → vs[i]? = some (some v)) : yb_L ls nL ws := by
  refine ⟨h.1, h.2.1, fun q hq => ?_⟩
  obtain ⟨k, h1, h2⟩ := yb_ix_mem.mp hq
  exact h.2.2 q (yb_ix_mem.mpr ⟨k, h1, hs k q.2 h2⟩)
/-- the slot ahead of i is no long -/
def yb_ok1 (vs : List (Option Value)) : Nat → Bool
  | 0 => true
  | i + 1 => match vs[i]? with
    | some (some v) => v.category == 1
    | _ => true
theorem yb_L.store {ls : Array Slot} {nL : Nat} {vs : List (Option Value)} {i : Nat} {v : Value} (h : yb_L ls nL vs) (hn : i < nL) (hc : v.category = 1) (hk : yb_ok1 vs i = true) :
    ∃ ls', storeLocals ls i v = some ls' ∧ yb_L ls' nL (vs.set i (some v)) := by
  obtain ⟨ls', e, h'⟩ := lv_store1 (v := v) h hn hc
  refine ⟨ls', e, h'.1, h'.2.1, fun q hq => ?_⟩
  obtain ⟨k, h1, h2⟩ := yb_ix_mem.mp hq
  have hk1 : q.1 = k := by omega
  apply h'.2.2 q
  by_cases hki : k = i
  · subst hki
    rw [List.getElem?_set_self'] at h2
    cases hz : vs[k]? with
    | none => rw [hz] at h2; simp at h2
    | some z => rw [hz] at h2; simp at h2; obtain ⟨a, b⟩ := q; simp at hk1 h2; subst hk1; subst h2; exact List.mem_cons_self
  · rw [List.getElem?_set_ne (Ne.symm hki)] at h2
    refine List.mem_cons_of_mem _ (List.mem_filter.mpr ⟨yb_ix_mem.mpr ⟨k, h1, h2⟩, ?_⟩)
    simp only [Bool.and_eq_true, Bool.not_eq_true', beq_eq_false_iff_ne, ne_eq, Bool.and_eq_false_iff]
    refine ⟨by omega, ?_⟩
    by_cases hki2 : q.1 + 1 = i
    · right
      subst hki2
      rw [hk1] at hk
      simp only [yb_ok1, h2, beq_iff_eq] at hk
      simp [hk]
    · left; exact hki2
/-- a returning instruction for this value -/
def yb_ret (cc : ByteArray) (ret : Option FieldType) (pc : Nat) : Option Value → Prop
  | none => decode cc pc = .ok (.return_, 1) ∧ ret = none
  | some (.int x) => decode cc pc = .ok (.ireturn, 1) ∧ ∃ ty, ret = some ty ∧ narrow ty (.int x) = .int x
  | some (.long _) => decode cc pc = .ok (.lreturn, 1) ∧ ret = some .long
  | _ => False
def yb_Lo (G : yb_G) (locs : List Loc) : Prop := ∀ q ∈ locs, yb_h0 G ≤ q.base
def Rn (G : yb_G) (own : String) (cc : ByteArray) (nL : Nat) (ret : Option FieldType) (ini : Bool) (R : Room) (Q : Option Value → yb_M → Prop) (ce sl : Nat) (pc : Nat) (vs : List (Option Value)) (st : List Value) (M : yb_M) : Prop :=
  ∀ (p : Program) (l : Launch) (e : Env) (s : State) (m : MethodId) (args : Array Value) (below : List Frame) (meth : Method) (c : Code) (K : State → Prop) (H : Heap) (locs : List Loc) (ls : Array Slot),
    yb_C G own cc nL ret ini p s m args meth c → yb_W G M H → yb_Lo G locs → yb_L ls nL vs →
    (∀ (v : Option Value) (M' : yb_M) (H' : Heap) (locs' : List Loc) (ls' : Array Slot) (pc' ce' sl' : Nat), yb_ret cc ret pc' v → Q v M' → yb_W G M' H' → yb_Lo G locs' → ce' ≤ R.cells → sl' ≤ R.slots →
      W p l e R s m args below meth c H' locs' ce' sl' K (F0 m pc' ls' v.toList)) →
    W p l e R s m args below meth c H locs ce sl K (F0 m pc ls st)
section YB
variable {G : yb_G} {own : String} {cc : ByteArray} {nL : Nat} {ret : Option FieldType} {ini : Bool} {R : Room} {Q : Option Value → yb_M → Prop} {ce sl pc : Nat} {vs : List (Option Value)} {st : List Value} {M : yb_M}
theorem Rn.weak {vs' : List (Option Value)} (h : Rn G own cc nL ret ini R Q ce sl pc vs' st M) (hs : ∀ (i : Nat) (v : Value), vs'[i]? = some (some v) → vs[i]? = some (some v)) : Rn G own cc nL ret ini R Q ce sl pc vs st M :=
  fun p l e s m args below meth c K H locs ls hC hW hL hl hk => h p l e s m args below meth c K H locs ls hC hW hL (hl.mono hs) hk
theorem Rn.post {Q' : Option Value → yb_M → Prop} (h : Rn G own cc nL ret ini R Q' ce sl pc vs st M) (hq : ∀ v M', Q' v M' → Q v M') : Rn G own cc nL ret ini R Q ce sl pc vs st M :=
  fun p l e s m args below meth c K H locs ls hC hW hL hl hk => h p l e s m args below meth c K H locs ls hC hW hL hl (fun v M' H' locs' ls' pc' ce' sl' h1 h2 => hk v M' H' locs' ls' pc' ce' sl' h1 (hq v M' h2))
theorem n_iret {x : Int32} {ty : FieldType} (hd : decode cc pc = .ok (.ireturn, 1)) (hr : ret = some ty) (hn : narrow ty (.int x) = .int x) (hc : ce ≤ R.cells) (hs : sl ≤ R.slots) (hq : Q (some (.int x)) M) : Rn G own cc nL ret ini R Q ce sl pc vs [.int x] M :=
  fun p l e s m args below meth c K H locs ls hC hW hL hl hk => hk (some (.int x)) M H locs ls pc ce sl ⟨hd, ty, hr, hn⟩ hq hW hL hc hs
theorem n_lret {x : Int64} (hd : decode cc pc = .ok (.lreturn, 1)) (hr : ret = some .long) (hc : ce ≤ R.cells) (hs : sl ≤ R.slots) (hq : Q (some (.long x)) M) : Rn G own cc nL ret ini R Q ce sl pc vs [.long x] M :=
  fun p l e s m args below meth c K H locs ls hC hW hL hl hk => hk (some (.long x)) M H locs ls pc ce sl ⟨hd, hr⟩ hq hW hL hc hs
theorem n_vret (hd : decode cc pc = .ok (.return_, 1)) (hr : ret = none) (hc : ce ≤ R.cells) (hs : sl ≤ R.slots) (hq : Q none M) : Rn G own cc nL ret ini R Q ce sl pc vs [] M :=
  fun p l e s m args below meth c K H locs ls hC hW hL hl hk => hk none M H locs ls pc ce sl ⟨hd, hr⟩ hq hW hL hc hs
theorem n_iconst {n : Int} (v : Int32) (hd : decode cc pc = .ok (.iconst n, 1)) (hv : Int32.ofInt n = v) (k : Rn G own cc nL ret ini R Q ce sl (pc + 1) vs (.int v :: st) M) : Rn G own cc nL ret ini R Q ce sl pc vs (st) M :=
  fun p l e s m args below meth c K H locs ls hC hW hL hl hk => lv_iconst hC.1 hC.2.1 hd hv (k p l e s m args below meth c K H locs ls hC hW hL hl hk)
theorem n_bipush {n : Int} (v : Int32) (hd : decode cc pc = .ok (.bipush n, 2)) (hv : (Int8.ofInt n).toInt32 = v) (k : Rn G own cc nL ret ini R Q ce sl (pc + 2) vs (.int v :: st) M) : Rn G own cc nL ret ini R Q ce sl pc vs (st) M :=
  fun p l e s m args below meth c K H locs ls hC hW hL hl hk => lv_bipush hC.1 hC.2.1 hd hv (k p l e s m args below meth c K H locs ls hC hW hL hl hk)
theorem n_sipush {n : Int} (v : Int32) (hd : decode cc pc = .ok (.sipush n, 3)) (hv : (Int16.ofInt n).toInt32 = v) (k : Rn G own cc nL ret ini R Q ce sl (pc + 3) vs (.int v :: st) M) : Rn G own cc nL ret ini R Q ce sl pc vs (st) M :=
  fun p l e s m args below meth c K H locs ls hC hW hL hl hk => lv_sipush hC.1 hC.2.1 hd hv (k p l e s m args below meth c K H locs ls hC hW hL hl hk)
theorem n_lconst {n : Fin 2} (v : Int64) (hd : decode cc pc = .ok (.lconst n, 1)) (hv : Int64.ofNat (n : Nat) = v) (k : Rn G own cc nL ret ini R Q ce sl (pc + 1) vs (.long v :: st) M) : Rn G own cc nL ret ini R Q ce sl pc vs (st) M :=
  fun p l e s m args below meth c K H locs ls hC hW hL hl hk => lv_lconst hC.1 hC.2.1 hd hv (k p l e s m args below meth c K H locs ls hC hW hL hl hk)
theorem n_ldc {index : Nat} (v : Int32) (hw : Cond.constant own index v ∈ yb_gw) (hd : decode cc pc = .ok (.ldc index, 2)) (k : Rn G own cc nL ret ini R Q ce sl (pc + 2) vs (.int v :: st) M) : Rn G own cc nL ret ini R Q ce sl pc vs st M :=
  fun p l e s m args below meth c K H locs ls hC hW hL hl hk => lv_ldc hC.1 hC.2.1 hC.2.2.2.1 (hC.2.2.2.2.1 _ hw) hd (k p l e s m args below meth c K H locs ls hC hW hL hl hk)
theorem n_ldcw {index : Nat} (v : Int32) (hw : Cond.constant own index v ∈ yb_gw) (hd : decode cc pc = .ok (.ldc_w index, 3)) (k : Rn G own cc nL ret ini R Q ce sl (pc + 3) vs (.int v :: st) M) : Rn G own cc nL ret ini R Q ce sl pc vs st M :=
  fun p l e s m args below meth c K H locs ls hC hW hL hl hk => lv_ldcw hC.1 hC.2.1 hC.2.2.2.1 (hC.2.2.2.2.1 _ hw) hd (k p l e s m args below meth c K H locs ls hC hW hL hl hk)
theorem n_ldc2 {index : Nat} (v : Int64) (hw : Cond.constantLong own index v ∈ yb_gw) (hd : decode cc pc = .ok (.ldc2_w index, 3)) (k : Rn G own cc nL ret ini R Q ce sl (pc + 3) vs (.long v :: st) M) : Rn G own cc nL ret ini R Q ce sl pc vs st M :=
  fun p l e s m args below meth c K H locs ls hC hW hL hl hk => lv_ldc2 hC.1 hC.2.1 hC.2.2.2.1 (hC.2.2.2.2.1 _ hw) hd (k p l e s m args below meth c K H locs ls hC hW hL hl hk)
theorem n_iload_n {j : Fin 4} {i : Nat} {x : Int32} (hd : decode cc pc = .ok (.iload_n j, 1)) (hi : (j : Nat) = i) (hx : vs[i]? = some (some (.int x))) (k : Rn G own cc nL ret ini R Q ce sl (pc + 1) vs (.int x :: st) M) : Rn G own cc nL ret ini R Q ce sl pc vs st M :=
  fun p l e s m args below meth c K H locs ls hC hW hL hl hk => lv_iload_n hC.1 hC.2.1 hd hi (yb_L.at hl hx) (k p l e s m args below meth c K H locs ls hC hW hL hl hk)
theorem n_iload {i : Nat} {x : Int32} (hd : decode cc pc = .ok (.iload i, 2)) (hx : vs[i]? = some (some (.int x))) (k : Rn G own cc nL ret ini R Q ce sl (pc + 2) vs (.int x :: st) M) : Rn G own cc nL ret ini R Q ce sl pc vs st M :=
  fun p l e s m args below meth c K H locs ls hC hW hL hl hk => lv_iload hC.1 hC.2.1 hd (yb_L.at hl hx) (k p l e s m args below meth c K H locs ls hC hW hL hl hk)
theorem n_lload_n {j : Fin 4} {i : Nat} {x : Int64} (hd : decode cc pc = .ok (.lload_n j, 1)) (hi : (j : Nat) = i) (hx : vs[i]? = some (some (.long x))) (k : Rn G own cc nL ret ini R Q ce sl (pc + 1) vs (.long x :: st) M) : Rn G own cc nL ret ini R Q ce sl pc vs st M :=
  fun p l e s m args below meth c K H locs ls hC hW hL hl hk => lv_lload_n hC.1 hC.2.1 hd hi (yb_L.at hl hx) (k p l e s m args below meth c K H locs ls hC hW hL hl hk)
theorem n_lload {i : Nat} {x : Int64} (hd : decode cc pc = .ok (.lload i, 2)) (hx : vs[i]? = some (some (.long x))) (k : Rn G own cc nL ret ini R Q ce sl (pc + 2) vs (.long x :: st) M) : Rn G own cc nL ret ini R Q ce sl pc vs st M :=
  fun p l e s m args below meth c K H locs ls hC hW hL hl hk => lv_lload hC.1 hC.2.1 hd (yb_L.at hl hx) (k p l e s m args below meth c K H locs ls hC hW hL hl hk)
theorem n_aload_n {j : Fin 4} {i : Nat} {x : Nat} (hd : decode cc pc = .ok (.aload_n j, 1)) (hi : (j : Nat) = i) (hx : vs[i]? = some (some (.ref x))) (k : Rn G own cc nL ret ini R Q ce sl (pc + 1) vs (.ref x :: st) M) : Rn G own cc nL ret ini R Q ce sl pc vs st M :=
  fun p l e s m args below meth c K H locs ls hC hW hL hl hk => lv_aload_n hC.1 hC.2.1 hd hi (yb_L.at hl hx) (k p l e s m args below meth c K H locs ls hC hW hL hl hk)
theorem n_aload {i : Nat} {x : Nat} (hd : decode cc pc = .ok (.aload i, 2)) (hx : vs[i]? = some (some (.ref x))) (k : Rn G own cc nL ret ini R Q ce sl (pc + 2) vs (.ref x :: st) M) : Rn G own cc nL ret ini R Q ce sl pc vs st M :=
  fun p l e s m args below meth c K H locs ls hC hW hL hl hk => lv_aload hC.1 hC.2.1 hd (yb_L.at hl hx) (k p l e s m args below meth c K H locs ls hC hW hL hl hk)
theorem n_istore_n {j : Fin 4} {i : Nat} {x : Int32} {vs' : List (Option Value)} (hd : decode cc pc = .ok (.istore_n j, 1)) (hi : (j : Nat) = i) (hn : i < nL) (ho : yb_ok1 vs i = true) (hs : vs.set i (some (.int x)) = vs') (k : Rn G own cc nL ret ini R Q ce sl (pc + 1) vs' st M) : Rn G own cc nL ret ini R Q ce sl pc vs (.int x :: st) M := by
  subst hi
  intro p l e s m args below meth c K H locs ls hC hW hL hl hk
  subst hs
  obtain ⟨ls', e', h'⟩ := yb_L.store (v := .int x) hl hn rfl ho
  intro T hT X
  obtain ⟨t, a, b⟩ := k p l e s m args below meth c K H locs ls' hC hW hL h' hk T hT X
  refine ⟨t, ?_, b⟩
  have hexec := hC.1
  have hb := hC.2.1
  jvm_step X.here [X.here.top, ↓top_set X.here.top, hexec, hb, hd, e']
  exact a
theorem n_istore {i : Nat} {x : Int32} {vs' : List (Option Value)} (hd : decode cc pc = .ok (.istore i, 2)) (hn : i < nL) (ho : yb_ok1 vs i = true) (hs : vs.set i (some (.int x)) = vs') (k : Rn G own cc nL ret ini R Q ce sl (pc + 2) vs' st M) : Rn G own cc nL ret ini R Q ce sl pc vs (.int x :: st) M := by
  intro p l e s m args below meth c K H locs ls hC hW hL hl hk
  subst hs
  obtain ⟨ls', e', h'⟩ := yb_L.store (v := .int x) hl hn rfl ho
  intro T hT X
  obtain ⟨t, a, b⟩ := k p l e s m args below meth c K H locs ls' hC hW hL h' hk T hT X
  refine ⟨t, ?_, b⟩
  have hexec := hC.1
  have hb := hC.2.1
  jvm_step X.here [X.here.top, ↓top_set X.here.top, hexec, hb, hd, e']
  exact a
theorem n_astore_n {j : Fin 4} {i : Nat} {x : Nat} {vs' : List (Option Value)} (hd : decode cc pc = .ok (.astore_n j, 1)) (hi : (j : Nat) = i) (hn : i < nL) (ho : yb_ok1 vs i = true) (hs : vs.set i (some (.ref x)) = vs') (k : Rn G own cc nL ret ini R Q ce sl (pc + 1) vs' st M) : Rn G own cc nL ret ini R Q ce sl pc vs (.ref x :: st) M := by
  subst hi
  intro p l e s m args below meth c K H locs ls hC hW hL hl hk
  subst hs
  obtain ⟨ls', e', h'⟩ := yb_L.store (v := .ref x) hl hn rfl ho
  intro T hT X
  obtain ⟨t, a, b⟩ := k p l e s m args below meth c K H locs ls' hC hW hL h' hk T hT X
  refine ⟨t, ?_, b⟩
  have hexec := hC.1
  have hb := hC.2.1
  jvm_step X.here [X.here.top, ↓top_set X.here.top, hexec, hb, hd, e', Value.isRef]
  exact a
theorem n_astore {i : Nat} {x : Nat} {vs' : List (Option Value)} (hd : decode cc pc = .ok (.astore i, 2)) (hn : i < nL) (ho : yb_ok1 vs i = true) (hs : vs.set i (some (.ref x)) = vs') (k : Rn G own cc nL ret ini R Q ce sl (pc + 2) vs' st M) : Rn G own cc nL ret ini R Q ce sl pc vs (.ref x :: st) M := by
  intro p l e s m args below meth c K H locs ls hC hW hL hl hk
  subst hs
  obtain ⟨ls', e', h'⟩ := yb_L.store (v := .ref x) hl hn rfl ho
  intro T hT X
  obtain ⟨t, a, b⟩ := k p l e s m args below meth c K H locs ls' hC hW hL h' hk T hT X
  refine ⟨t, ?_, b⟩
  have hexec := hC.1
  have hb := hC.2.1
  jvm_step X.here [X.here.top, ↓top_set X.here.top, hexec, hb, hd, e', Value.isRef]
  exact a
theorem n_iinc {i : Nat} {n : Int} {x v : Int32} {vs' : List (Option Value)} (hd : decode cc pc = .ok (.iinc i n, 3)) (hx : vs[i]? = some (some (.int x))) (hv : x + Int32.ofInt n = v) (hn : i < nL) (ho : yb_ok1 vs i = true) (hs : vs.set i (some (.int v)) = vs') (k : Rn G own cc nL ret ini R Q ce sl (pc + 3) vs' st M) : Rn G own cc nL ret ini R Q ce sl pc vs st M := by
  intro p l e s m args below meth c K H locs ls hC hW hL hl hk
  subst hs
  subst hv
  have hg := yb_L.at hl hx
  obtain ⟨ls', e', h'⟩ := yb_L.store (v := .int (x + Int32.ofInt n)) hl hn rfl ho
  intro T hT X
  obtain ⟨t, a, b⟩ := k p l e s m args below meth c K H locs ls' hC hW hL h' hk T hT X
  refine ⟨t, ?_, b⟩
  have hexec := hC.1
  have hb := hC.2.1
  jvm_step X.here [X.here.top, ↓top_set X.here.top, hexec, hb, hd, hg, e']
  exact a
theorem n_iadd {x y : Int32} (hd : decode cc pc = .ok (.iadd, 1)) (k : Rn G own cc nL ret ini R Q ce sl (pc + 1) vs (.int (x + y) :: st) M) : Rn G own cc nL ret ini R Q ce sl pc vs (.int y :: .int x :: st) M :=
  fun p l e s m args below meth c K H locs ls hC hW hL hl hk => lv_iadd hC.1 hC.2.1 hd (k p l e s m args below meth c K H locs ls hC hW hL hl hk)
theorem n_isub {x y : Int32} (hd : decode cc pc = .ok (.isub, 1)) (k : Rn G own cc nL ret ini R Q ce sl (pc + 1) vs (.int (x - y) :: st) M) : Rn G own cc nL ret ini R Q ce sl pc vs (.int y :: .int x :: st) M :=
  fun p l e s m args below meth c K H locs ls hC hW hL hl hk => lv_isub hC.1 hC.2.1 hd (k p l e s m args below meth c K H locs ls hC hW hL hl hk)
theorem n_imul {x y : Int32} (hd : decode cc pc = .ok (.imul, 1)) (k : Rn G own cc nL ret ini R Q ce sl (pc + 1) vs (.int (x * y) :: st) M) : Rn G own cc nL ret ini R Q ce sl pc vs (.int y :: .int x :: st) M :=
  fun p l e s m args below meth c K H locs ls hC hW hL hl hk => lv_imul hC.1 hC.2.1 hd (k p l e s m args below meth c K H locs ls hC hW hL hl hk)
theorem n_iand {x y : Int32} (hd : decode cc pc = .ok (.iand, 1)) (k : Rn G own cc nL ret ini R Q ce sl (pc + 1) vs (.int (x &&& y) :: st) M) : Rn G own cc nL ret ini R Q ce sl pc vs (.int y :: .int x :: st) M :=
  fun p l e s m args below meth c K H locs ls hC hW hL hl hk => lv_iand hC.1 hC.2.1 hd (k p l e s m args below meth c K H locs ls hC hW hL hl hk)
theorem n_ior {x y : Int32} (hd : decode cc pc = .ok (.ior, 1)) (k : Rn G own cc nL ret ini R Q ce sl (pc + 1) vs (.int (x ||| y) :: st) M) : Rn G own cc nL ret ini R Q ce sl pc vs (.int y :: .int x :: st) M :=
  fun p l e s m args below meth c K H locs ls hC hW hL hl hk => lv_ior hC.1 hC.2.1 hd (k p l e s m args below meth c K H locs ls hC hW hL hl hk)
theorem n_ixor {x y : Int32} (hd : decode cc pc = .ok (.ixor, 1)) (k : Rn G own cc nL ret ini R Q ce sl (pc + 1) vs (.int (x ^^^ y) :: st) M) : Rn G own cc nL ret ini R Q ce sl pc vs (.int y :: .int x :: st) M :=
  fun p l e s m args below meth c K H locs ls hC hW hL hl hk => lv_ixor hC.1 hC.2.1 hd (k p l e s m args below meth c K H locs ls hC hW hL hl hk)
theorem n_ishl {x y : Int32} (hd : decode cc pc = .ok (.ishl, 1)) (k : Rn G own cc nL ret ini R Q ce sl (pc + 1) vs (.int (x <<< (y &&& 31)) :: st) M) : Rn G own cc nL ret ini R Q ce sl pc vs (.int y :: .int x :: st) M :=
  fun p l e s m args below meth c K H locs ls hC hW hL hl hk => lv_ishl hC.1 hC.2.1 hd (k p l e s m args below meth c K H locs ls hC hW hL hl hk)
theorem n_ishr {x y : Int32} (hd : decode cc pc = .ok (.ishr, 1)) (k : Rn G own cc nL ret ini R Q ce sl (pc + 1) vs (.int (x >>> (y &&& 31)) :: st) M) : Rn G own cc nL ret ini R Q ce sl pc vs (.int y :: .int x :: st) M :=
  fun p l e s m args below meth c K H locs ls hC hW hL hl hk => lv_ishr hC.1 hC.2.1 hd (k p l e s m args below meth c K H locs ls hC hW hL hl hk)
theorem n_idiv {x y : Int32} (hd : decode cc pc = .ok (.idiv, 1)) (hne : ¬ y = 0) (k : Rn G own cc nL ret ini R Q ce sl (pc + 1) vs (.int (x / y) :: st) M) : Rn G own cc nL ret ini R Q ce sl pc vs (.int y :: .int x :: st) M :=
  fun p l e s m args below meth c K H locs ls hC hW hL hl hk => lv_idiv hC.1 hC.2.1 hd hne (k p l e s m args below meth c K H locs ls hC hW hL hl hk)
theorem n_irem {x y : Int32} (hd : decode cc pc = .ok (.irem, 1)) (hne : ¬ y = 0) (k : Rn G own cc nL ret ini R Q ce sl (pc + 1) vs (.int (x - x / y * y) :: st) M) : Rn G own cc nL ret ini R Q ce sl pc vs (.int y :: .int x :: st) M :=
  fun p l e s m args below meth c K H locs ls hC hW hL hl hk => lv_irem hC.1 hC.2.1 hd hne (k p l e s m args below meth c K H locs ls hC hW hL hl hk)
theorem n_ineg {x : Int32} (hd : decode cc pc = .ok (.ineg, 1)) (k : Rn G own cc nL ret ini R Q ce sl (pc + 1) vs (.int (-x) :: st) M) : Rn G own cc nL ret ini R Q ce sl pc vs (.int x :: st) M :=
  fun p l e s m args below meth c K H locs ls hC hW hL hl hk => lv_ineg hC.1 hC.2.1 hd (k p l e s m args below meth c K H locs ls hC hW hL hl hk)
theorem n_ladd {x y : Int64} (hd : decode cc pc = .ok (.ladd, 1)) (k : Rn G own cc nL ret ini R Q ce sl (pc + 1) vs (.long (x + y) :: st) M) : Rn G own cc nL ret ini R Q ce sl pc vs (.long y :: .long x :: st) M :=
  fun p l e s m args below meth c K H locs ls hC hW hL hl hk => lv_ladd hC.1 hC.2.1 hd (k p l e s m args below meth c K H locs ls hC hW hL hl hk)
theorem n_lsub {x y : Int64} (hd : decode cc pc = .ok (.lsub, 1)) (k : Rn G own cc nL ret ini R Q ce sl (pc + 1) vs (.long (x - y) :: st) M) : Rn G own cc nL ret ini R Q ce sl pc vs (.long y :: .long x :: st) M :=
  fun p l e s m args below meth c K H locs ls hC hW hL hl hk => lv_lsub hC.1 hC.2.1 hd (k p l e s m args below meth c K H locs ls hC hW hL hl hk)
theorem n_lmul {x y : Int64} (hd : decode cc pc = .ok (.lmul, 1)) (k : Rn G own cc nL ret ini R Q ce sl (pc + 1) vs (.long (x * y) :: st) M) : Rn G own cc nL ret ini R Q ce sl pc vs (.long y :: .long x :: st) M :=
  fun p l e s m args below meth c K H locs ls hC hW hL hl hk => lv_lmul hC.1 hC.2.1 hd (k p l e s m args below meth c K H locs ls hC hW hL hl hk)
theorem n_lcmp {x y : Int64} (hd : decode cc pc = .ok (.lcmp, 1)) (k : Rn G own cc nL ret ini R Q ce sl (pc + 1) vs (.int (lg_cmp x y) :: st) M) : Rn G own cc nL ret ini R Q ce sl pc vs (.long y :: .long x :: st) M :=
  fun p l e s m args below meth c K H locs ls hC hW hL hl hk => W.lcmp hC.1 hC.2.1 hd (k p l e s m args below meth c K H locs ls hC hW hL hl hk)
theorem n_i2l {x : Int32} (hd : decode cc pc = .ok (.i2l, 1)) (k : Rn G own cc nL ret ini R Q ce sl (pc + 1) vs (.long x.toInt64 :: st) M) : Rn G own cc nL ret ini R Q ce sl pc vs (.int x :: st) M :=
  fun p l e s m args below meth c K H locs ls hC hW hL hl hk => lv_i2l hC.1 hC.2.1 hd rfl (k p l e s m args below meth c K H locs ls hC hW hL hl hk)
theorem n_l2i {x : Int64} (hd : decode cc pc = .ok (.l2i, 1)) (k : Rn G own cc nL ret ini R Q ce sl (pc + 1) vs (.int x.toInt32 :: st) M) : Rn G own cc nL ret ini R Q ce sl pc vs (.long x :: st) M :=
  fun p l e s m args below meth c K H locs ls hC hW hL hl hk => lv_l2i hC.1 hC.2.1 hd rfl (k p l e s m args below meth c K H locs ls hC hW hL hl hk)
theorem n_i2b {x : Int32} (hd : decode cc pc = .ok (.i2b, 1)) (k : Rn G own cc nL ret ini R Q ce sl (pc + 1) vs (.int x.toInt8.toInt32 :: st) M) : Rn G own cc nL ret ini R Q ce sl pc vs (.int x :: st) M :=
  fun p l e s m args below meth c K H locs ls hC hW hL hl hk => lv_i2b hC.1 hC.2.1 hd rfl (k p l e s m args below meth c K H locs ls hC hW hL hl hk)
theorem n_iushr {x y : Int32} (hd : decode cc pc = .ok (.iushr, 1)) (k : Rn G own cc nL ret ini R Q ce sl (pc + 1) vs (.int (x.toUInt32 >>> (y.toUInt32 &&& Int32.toUInt32 31)).toInt32 :: st) M) : Rn G own cc nL ret ini R Q ce sl pc vs (.int y :: .int x :: st) M :=
  fun p l e s m args below meth c K H locs ls hC hW hL hl hk => lv_iushr hC.1 hC.2.1 hd rfl (k p l e s m args below meth c K H locs ls hC hW hL hl hk)
theorem n_dup {a : Value} (hd : decode cc pc = .ok (.dup, 1)) (h1 : a.category = 1) (k : Rn G own cc nL ret ini R Q ce sl (pc + 1) vs (a :: a :: st) M) : Rn G own cc nL ret ini R Q ce sl pc vs (a :: st) M :=
  fun p l e s m args below meth c K H locs ls hC hW hL hl hk => lv_dup hC.1 hC.2.1 hd h1 (k p l e s m args below meth c K H locs ls hC hW hL hl hk)
theorem n_pop {a : Value} (hd : decode cc pc = .ok (.pop, 1)) (h1 : a.category = 1) (k : Rn G own cc nL ret ini R Q ce sl (pc + 1) vs (st) M) : Rn G own cc nL ret ini R Q ce sl pc vs (a :: st) M :=
  fun p l e s m args below meth c K H locs ls hC hW hL hl hk => lv_pop hC.1 hC.2.1 hd h1 (k p l e s m args below meth c K H locs ls hC hW hL hl hk)
theorem n_dup2 {a b : Value} (hd : decode cc pc = .ok (.dup2, 1)) (h1 : a.category = 1) (h2 : b.category = 1) (k : Rn G own cc nL ret ini R Q ce sl (pc + 1) vs (a :: b :: a :: b :: st) M) : Rn G own cc nL ret ini R Q ce sl pc vs (a :: b :: st) M :=
  fun p l e s m args below meth c K H locs ls hC hW hL hl hk => lv_dup2_11 hC.1 hC.2.1 hd h1 h2 (k p l e s m args below meth c K H locs ls hC hW hL hl hk)
theorem n_if_eq {x : Int32} {off : Int} (tgt : Nat) (hd : decode cc pc = .ok (.ifCond .eq off, 3)) (ht : (pc : Int) + off = (tgt : Int)) (kt : x = 0 → Rn G own cc nL ret ini R Q ce sl tgt vs st M) (kf : ¬ x = 0 → Rn G own cc nL ret ini R Q ce sl (pc + 3) vs st M) : Rn G own cc nL ret ini R Q ce sl pc vs (.int x :: st) M :=
  fun p l e s m args below meth c K H locs ls hC hW hL hl hk => lv_if_eq hC.1 hC.2.1 hd ht (fun h => kt h p l e s m args below meth c K H locs ls hC hW hL hl hk) (fun h => kf h p l e s m args below meth c K H locs ls hC hW hL hl hk)
theorem n_if_ne {x : Int32} {off : Int} (tgt : Nat) (hd : decode cc pc = .ok (.ifCond .ne off, 3)) (ht : (pc : Int) + off = (tgt : Int)) (kt : ¬ x = 0 → Rn G own cc nL ret ini R Q ce sl tgt vs st M) (kf : x = 0 → Rn G own cc nL ret ini R Q ce sl (pc + 3) vs st M) : Rn G own cc nL ret ini R Q ce sl pc vs (.int x :: st) M :=
  fun p l e s m args below meth c K H locs ls hC hW hL hl hk => lv_if_ne hC.1 hC.2.1 hd ht (fun h => kt h p l e s m args below meth c K H locs ls hC hW hL hl hk) (fun h => kf h p l e s m args below meth c K H locs ls hC hW hL hl hk)
theorem n_if_lt {x : Int32} {off : Int} (tgt : Nat) (hd : decode cc pc = .ok (.ifCond .lt off, 3)) (ht : (pc : Int) + off = (tgt : Int)) (kt : x < 0 → Rn G own cc nL ret ini R Q ce sl tgt vs st M) (kf : ¬ x < 0 → Rn G own cc nL ret ini R Q ce sl (pc + 3) vs st M) : Rn G own cc nL ret ini R Q ce sl pc vs (.int x :: st) M :=
  fun p l e s m args below meth c K H locs ls hC hW hL hl hk => lv_if_lt hC.1 hC.2.1 hd ht (fun h => kt h p l e s m args below meth c K H locs ls hC hW hL hl hk) (fun h => kf h p l e s m args below meth c K H locs ls hC hW hL hl hk)
theorem n_if_ge {x : Int32} {off : Int} (tgt : Nat) (hd : decode cc pc = .ok (.ifCond .ge off, 3)) (ht : (pc : Int) + off = (tgt : Int)) (kt : 0 ≤ x → Rn G own cc nL ret ini R Q ce sl tgt vs st M) (kf : ¬ 0 ≤ x → Rn G own cc nL ret ini R Q ce sl (pc + 3) vs st M) : Rn G own cc nL ret ini R Q ce sl pc vs (.int x :: st) M :=
  fun p l e s m args below meth c K H locs ls hC hW hL hl hk => lv_if_ge hC.1 hC.2.1 hd ht (fun h => kt h p l e s m args below meth c K H locs ls hC hW hL hl hk) (fun h => kf h p l e s m args below meth c K H locs ls hC hW hL hl hk)
theorem n_if_gt {x : Int32} {off : Int} (tgt : Nat) (hd : decode cc pc = .ok (.ifCond .gt off, 3)) (ht : (pc : Int) + off = (tgt : Int)) (kt : 0 < x → Rn G own cc nL ret ini R Q ce sl tgt vs st M) (kf : ¬ 0 < x → Rn G own cc nL ret ini R Q ce sl (pc + 3) vs st M) : Rn G own cc nL ret ini R Q ce sl pc vs (.int x :: st) M :=
  fun p l e s m args below meth c K H locs ls hC hW hL hl hk => lv_if_gt hC.1 hC.2.1 hd ht (fun h => kt h p l e s m args below meth c K H locs ls hC hW hL hl hk) (fun h => kf h p l e s m args below meth c K H locs ls hC hW hL hl hk)
theorem n_if_le {x : Int32} {off : Int} (tgt : Nat) (hd : decode cc pc = .ok (.ifCond .le off, 3)) (ht : (pc : Int) + off = (tgt : Int)) (kt : x ≤ 0 → Rn G own cc nL ret ini R Q ce sl tgt vs st M) (kf : ¬ x ≤ 0 → Rn G own cc nL ret ini R Q ce sl (pc + 3) vs st M) : Rn G own cc nL ret ini R Q ce sl pc vs (.int x :: st) M :=
  fun p l e s m args below meth c K H locs ls hC hW hL hl hk => lv_if_le hC.1 hC.2.1 hd ht (fun h => kt h p l e s m args below meth c K H locs ls hC hW hL hl hk) (fun h => kf h p l e s m args below meth c K H locs ls hC hW hL hl hk)
theorem n_icmp_eq {x y : Int32} {off : Int} (tgt : Nat) (hd : decode cc pc = .ok (.if_icmp .eq off, 3)) (ht : (pc : Int) + off = (tgt : Int)) (kt : x = y → Rn G own cc nL ret ini R Q ce sl tgt vs st M) (kf : ¬ x = y → Rn G own cc nL ret ini R Q ce sl (pc + 3) vs st M) : Rn G own cc nL ret ini R Q ce sl pc vs (.int y :: .int x :: st) M :=
  fun p l e s m args below meth c K H locs ls hC hW hL hl hk => lv_icmp_eq hC.1 hC.2.1 hd ht (fun h => kt h p l e s m args below meth c K H locs ls hC hW hL hl hk) (fun h => kf h p l e s m args below meth c K H locs ls hC hW hL hl hk)
theorem n_icmp_ne {x y : Int32} {off : Int} (tgt : Nat) (hd : decode cc pc = .ok (.if_icmp .ne off, 3)) (ht : (pc : Int) + off = (tgt : Int)) (kt : ¬ x = y → Rn G own cc nL ret ini R Q ce sl tgt vs st M) (kf : x = y → Rn G own cc nL ret ini R Q ce sl (pc + 3) vs st M) : Rn G own cc nL ret ini R Q ce sl pc vs (.int y :: .int x :: st) M :=
  fun p l e s m args below meth c K H locs ls hC hW hL hl hk => lv_icmp_ne hC.1 hC.2.1 hd ht (fun h => kt h p l e s m args below meth c K H locs ls hC hW hL hl hk) (fun h => kf h p l e s m args below meth c K H locs ls hC hW hL hl hk)
theorem n_icmp_lt {x y : Int32} {off : Int} (tgt : Nat) (hd : decode cc pc = .ok (.if_icmp .lt off, 3)) (ht : (pc : Int) + off = (tgt : Int)) (kt : x < y → Rn G own cc nL ret ini R Q ce sl tgt vs st M) (kf : ¬ x < y → Rn G own cc nL ret ini R Q ce sl (pc + 3) vs st M) : Rn G own cc nL ret ini R Q ce sl pc vs (.int y :: .int x :: st) M :=
  fun p l e s m args below meth c K H locs ls hC hW hL hl hk => lv_icmp_lt hC.1 hC.2.1 hd ht (fun h => kt h p l e s m args below meth c K H locs ls hC hW hL hl hk) (fun h => kf h p l e s m args below meth c K H locs ls hC hW hL hl hk)
theorem n_icmp_ge {x y : Int32} {off : Int} (tgt : Nat) (hd : decode cc pc = .ok (.if_icmp .ge off, 3)) (ht : (pc : Int) + off = (tgt : Int)) (kt : y ≤ x → Rn G own cc nL ret ini R Q ce sl tgt vs st M) (kf : ¬ y ≤ x → Rn G own cc nL ret ini R Q ce sl (pc + 3) vs st M) : Rn G own cc nL ret ini R Q ce sl pc vs (.int y :: .int x :: st) M :=
  fun p l e s m args below meth c K H locs ls hC hW hL hl hk => lv_icmp_ge hC.1 hC.2.1 hd ht (fun h => kt h p l e s m args below meth c K H locs ls hC hW hL hl hk) (fun h => kf h p l e s m args below meth c K H locs ls hC hW hL hl hk)
theorem n_icmp_gt {x y : Int32} {off : Int} (tgt : Nat) (hd : decode cc pc = .ok (.if_icmp .gt off, 3)) (ht : (pc : Int) + off = (tgt : Int)) (kt : y < x → Rn G own cc nL ret ini R Q ce sl tgt vs st M) (kf : ¬ y < x → Rn G own cc nL ret ini R Q ce sl (pc + 3) vs st M) : Rn G own cc nL ret ini R Q ce sl pc vs (.int y :: .int x :: st) M :=
  fun p l e s m args below meth c K H locs ls hC hW hL hl hk => lv_icmp_gt hC.1 hC.2.1 hd ht (fun h => kt h p l e s m args below meth c K H locs ls hC hW hL hl hk) (fun h => kf h p l e s m args below meth c K H locs ls hC hW hL hl hk)
theorem n_icmp_le {x y : Int32} {off : Int} (tgt : Nat) (hd : decode cc pc = .ok (.if_icmp .le off, 3)) (ht : (pc : Int) + off = (tgt : Int)) (kt : x ≤ y → Rn G own cc nL ret ini R Q ce sl tgt vs st M) (kf : ¬ x ≤ y → Rn G own cc nL ret ini R Q ce sl (pc + 3) vs st M) : Rn G own cc nL ret ini R Q ce sl pc vs (.int y :: .int x :: st) M :=
  fun p l e s m args below meth c K H locs ls hC hW hL hl hk => lv_icmp_le hC.1 hC.2.1 hd ht (fun h => kt h p l e s m args below meth c K H locs ls hC hW hL hl hk) (fun h => kf h p l e s m args below meth c K H locs ls hC hW hL hl hk)
theorem n_goto {off : Int} (tgt : Nat) (hd : decode cc pc = .ok (.goto off, 3)) (ht : (pc : Int) + off = (tgt : Int)) (k : Rn G own cc nL ret ini R Q ce sl tgt vs st M) : Rn G own cc nL ret ini R Q ce sl pc vs st M :=
  fun p l e s m args below meth c K H locs ls hC hW hL hl hk => lv_goto hC.1 hC.2.1 hd ht (k p l e s m args below meth c K H locs ls hC hW hL hl hk)
theorem n_lookup {dflt : Int} {ps : Array (Int × Int)} {len : Nat} {x : Int32} {off : Int} (tgt : Nat) (hd : decode cc pc = .ok (.lookupswitch dflt ps, len)) (hp : (ps.toList.zip (ps.toList.drop 1)).all (fun (a, next) => a.1 < next.1) = true) (ho : Op.lookupswitch.offset ps.toList dflt x.toInt = off) (ht : (pc : Int) + off = (tgt : Int)) (k : Rn G own cc nL ret ini R Q ce sl tgt vs st M) : Rn G own cc nL ret ini R Q ce sl pc vs (.int x :: st) M :=
  fun p l e s m args below meth c K H locs ls hC hW hL hl hk => lv_lookup hC.1 hC.2.1 hd hp ho ht (k p l e s m args below meth c K H locs ls hC hW hL hl hk)
theorem n_tableOut {dflt lo hi : Int} {offs : Array Int} {len : Nat} {x : Int32} (tgt : Nat) (hd : decode cc pc = .ok (.tableswitch dflt lo hi offs, len)) (h : x.toInt < lo ∨ hi < x.toInt) (ht : (pc : Int) + dflt = (tgt : Int)) (k : Rn G own cc nL ret ini R Q ce sl tgt vs st M) : Rn G own cc nL ret ini R Q ce sl pc vs (.int x :: st) M :=
  fun p l e s m args below meth c K H locs ls hC hW hL hl hk => lv_tableOut hC.1 hC.2.1 hd h ht (k p l e s m args below meth c K H locs ls hC hW hL hl hk)
theorem n_tableIn {dflt lo hi : Int} {offs : Array Int} {len : Nat} {x : Int32} {off : Int} (tgt : Nat) (hd : decode cc pc = .ok (.tableswitch dflt lo hi offs, len)) (h1 : ¬ x.toInt < lo) (h2 : ¬ hi < x.toInt) (ho : offs[(x.toInt - lo).toNat]? = some off) (ht : (pc : Int) + off = (tgt : Int)) (k : Rn G own cc nL ret ini R Q ce sl tgt vs st M) : Rn G own cc nL ret ini R Q ce sl pc vs (.int x :: st) M :=
  fun p l e s m args below meth c K H locs ls hC hW hL hl hk => lv_tableIn hC.1 hC.2.1 hd h1 h2 ho ht (k p l e s m args below meth c K H locs ls hC hW hL hl hk)
end YB
/-- f, but x at place k of cell id -/
def yb_u {α : Type} (f : Nat → Nat → α) (id k : Nat) (x : α) : Nat → Nat → α := fun a b => if a = id then (if b = k then x else f a b) else f a b
theorem yb_u_eq {α : Type} {f : Nat → Nat → α} {id k : Nat} {x : α} : yb_u f id k x id k = x := by simp [yb_u]
theorem yb_u_ne {α : Type} {f : Nat → Nat → α} {id k a b : Nat} {x : α} (h : a ≠ id) : yb_u f id k x a b = f a b := by simp [yb_u, h]
theorem yb_u_k {α : Type} {f : Nat → Nat → α} {id k b : Nat} {x : α} (h : b ≠ k) : yb_u f id k x id b = f id b := by simp [yb_u, h]
def yb_setI (M : yb_M) (id k : Nat) (x : Int32) : yb_M := (yb_u M.1 id k x, M.2)
def yb_setL (M : yb_M) (id k : Nat) (x : Int64) : yb_M := (M.1, yb_u M.2.1 id k x, M.2.2)
def yb_setR (M : yb_M) (id k : Nat) (x : Option Nat) : yb_M := (M.1, M.2.1, yb_u M.2.2.1 id k x, M.2.2.2)
theorem yb_ad_lt {G : yb_G} {id : Nat} (h : id < 100000) : yb_ad G id = yb_h0 G + id := if_pos h
theorem yb_W.lt {G : yb_G} {M : yb_M} {H : Heap} (hW : yb_W G M H) {id : Nat} {sh : yb_Sh} (hsh : M.2.2.2.1 id = some sh) : id < 100000 := Nat.lt_of_lt_of_le (hW.2.2.2 id sh hsh).1 hW.2.1
theorem yb_W.ne {G : yb_G} {M : yb_M} {H : Heap} (hW : yb_W G M H) {id id' : Nat} {sh sh' : yb_Sh} (h : M.2.2.2.1 id = some sh) (h' : M.2.2.2.1 id' = some sh') (hne : id' ≠ id) : yb_ad G id' ≠ yb_ad G id := by
  rw [yb_ad_lt (hW.lt h), yb_ad_lt (hW.lt h')]
  omega
theorem yb_cell.kept {G : yb_G} {M M' : yb_M} {H H' : Heap} {id : Nat} {sh : yb_Sh} (h : yb_cell G M H id sh) (hv : ∀ (k : Nat) (ty : FieldType), yb_v G M' ty id k = yb_v G M ty id k) (hq : H'[yb_ad G id]? = H[yb_ad G id]?) : yb_cell G M' H' id sh := by
  cases sh with
  | inl ci =>
    obtain ⟨q, h1, h2⟩ := h
    exact ⟨q, h1, (h2.kept hq).to (fun k _ => (hv k _).symm)⟩
  | inr x =>
    show H'[yb_ad G id]? = some (arrV (yb_ac G x.1) x.2 (fun k => yb_v G M' x.1 id k))
    rw [hq, show (fun k => yb_v G M' x.1 id k) = (fun k => yb_v G M x.1 id k) from funext fun k => hv k _]
    exact h
theorem yb_W.put {G : yb_G} {M M' : yb_M} {H H' : Heap} {id : Nat} {sh : yb_Sh} (hW : yb_W G M H) (hsh : M.2.2.2.1 id = some sh) (hM : M'.2.2.2 = M.2.2.2) (hoth : ∀ (id' k : Nat) (ty : FieldType), id' ≠ id → yb_v G M' ty id' k = yb_v G M ty id' k)
    (hz : H'.size = H.size) (ho : ∀ q : Nat, q ≠ yb_ad G id → H'[q]? = H[q]?) (hcell : yb_cell G M' H' id sh) : yb_W G M' H' := by
  have hlt := hW.lt hsh
  obtain ⟨w1, w2, w3, w4⟩ := hW
  refine ⟨by rw [hz, hM]; exact w1, by rw [hM]; exact w2, fun q hq => ?_, fun id' sh' hs' => ?_⟩
  · rw [ho q (by rw [yb_ad_lt hlt]; omega)]
    exact w3 q hq
  · rw [hM] at hs' ⊢
    refine ⟨(w4 id' sh' hs').1, ?_⟩
    by_cases hne : id' = id
    · subst hne
      rw [hsh] at hs'
      cases hs'
      exact hcell
    · exact (w4 id' sh' hs').2.kept (fun k ty => hoth id' k ty hne) (ho _ (yb_W.ne ⟨w1, w2, w3, w4⟩ hsh hs' hne))
theorem yb_Lo.put {G : yb_G} {locs : List Loc} {id k : Nat} (h : yb_Lo G locs) (hlt : id < 100000) : yb_Lo G (locs ++ [⟨yb_ad G id, k⟩]) := by
  intro q hq
  rcases List.mem_append.mp hq with h1 | h1
  · exact h q h1
  · rw [List.mem_singleton.mp h1]
    show yb_h0 G ≤ yb_ad G id
    rw [yb_ad_lt hlt]
    omega
theorem yb_v_setI {G : yb_G} {M : yb_M} {id k : Nat} {x : Int32} (id' k' : Nat) (ty : FieldType) (h : id' ≠ id) : yb_v G (yb_setI M id k x) ty id' k' = yb_v G M ty id' k' := by
  cases ty <;> simp [yb_v, yb_setI, yb_u, h]
theorem yb_v_setL {G : yb_G} {M : yb_M} {id k : Nat} {x : Int64} (id' k' : Nat) (ty : FieldType) (h : id' ≠ id) : yb_v G (yb_setL M id k x) ty id' k' = yb_v G M ty id' k' := by
  cases ty <;> simp [yb_v, yb_setL, yb_u, h]
theorem yb_v_setR {G : yb_G} {M : yb_M} {id k : Nat} {x : Option Nat} (id' k' : Nat) (ty : FieldType) (h : id' ≠ id) : yb_v G (yb_setR M id k x) ty id' k' = yb_v G M ty id' k' := by
  cases ty <;> simp [yb_v, yb_setR, yb_u, h]
/-- a type whose values are kept as ints -/
def yb_small : FieldType → Bool
  | .long | .float | .double => false
  | .object _ | .array _ => false
  | _ => true
theorem yb_v_int {G : yb_G} {M : yb_M} {ty : FieldType} {id k : Nat} (h : yb_small ty = true) : yb_v G M ty id k = .int (M.1 id k) := by
  cases ty <;> first | rfl | (simp [yb_small] at h)
theorem yb_v_ref {G : yb_G} {M : yb_M} {ty : FieldType} {id k : Nat} (h : ty.isReference = true) : yb_v G M ty id k = va_rf ((M.2.2.1 id k).map (yb_ad G)) := by
  cases ty <;> first | rfl | (simp [FieldType.isReference] at h)
/-- an instruction's field: its class's kind and place -/
def yb_fl (own : String) (idx ci k : Nat) : Prop := ∃ q : vw_C, vwCl[ci]? = some q ∧ k < q.2.2 ∧ (∀ w ∈ u_ws q.1 q.2.1 q.2.2, w ∈ yb_gw) ∧ Cond.fieldLink own idx (q.2.1 k).1 (q.2.1 k).2.1 (q.2.1 k).2.2.1 ∈ yb_gw
/-- such a one, that isn't final, and is as its table says -/
def yb_fp (own : String) (idx ci k : Nat) : Prop := ∃ q : vw_C, vwCl[ci]? = some q ∧ k < q.2.2 ∧ (∀ w ∈ u_ws q.1 q.2.1 q.2.2, w ∈ yb_gw) ∧ Cond.fieldLink own idx (q.2.1 k).1 (q.2.1 k).2.1 (q.2.1 k).2.2.1 ∈ yb_gw ∧ (q.2.1 k).2.2.2 = false ∧ (∀ j, j < q.2.2 → parseFieldDescriptor (q.2.1 j).2.2.1 = some (vwTy ci j)) ∧ (∀ a, a < q.2.2 → ∀ b, b < q.2.2 → a ≠ b → (q.2.1 a).2.1 ≠ (q.2.1 b).2.1)
/-- a final one, set in its own class -/
def yb_ff (own : String) (idx ci k : Nat) : Prop := ∃ q : vw_C, vwCl[ci]? = some q ∧ k < q.2.2 ∧ (∀ w ∈ u_ws q.1 q.2.1 q.2.2, w ∈ yb_gw) ∧ Cond.fieldLink own idx (q.2.1 k).1 (q.2.1 k).2.1 (q.2.1 k).2.2.1 ∈ yb_gw ∧ (q.2.1 k).2.2.2 = true ∧ (q.2.1 k).1 = own ∧ (∀ j, j < q.2.2 → parseFieldDescriptor (q.2.1 j).2.2.1 = some (vwTy ci j)) ∧ (∀ a, a < q.2.2 → ∀ b, b < q.2.2 → a ≠ b → (q.2.1 a).2.1 ≠ (q.2.1 b).2.1)
section YH
variable {G : yb_G} {own : String} {cc : ByteArray} {nL : Nat} {ret : Option FieldType} {ini : Bool} {R : Room} {Q : Option Value → yb_M → Prop} {ce sl pc : Nat} {vs : List (Option Value)} {st : List Value} {M : yb_M}
theorem n_get {idx ci k id : Nat} {v : Value} (hf : yb_fl own idx ci k) (hsh : M.2.2.2.1 id = some (.inl ci)) (hv : yb_v G M (vwTy ci k) id k = v) (hd : decode cc pc = .ok (.getfield idx, 3)) (kk : Rn G own cc nL ret ini R Q ce sl (pc + 3) vs (v :: st) M) : Rn G own cc nL ret ini R Q ce sl pc vs (.ref (yb_ad G id) :: st) M := by
  intro p l e s m args below meth c K H locs ls hC hW hL hl hk
  obtain ⟨⟨C, T, N⟩, f1, f2, f3, f4⟩ := hf
  obtain ⟨hx, hb, hml, hown, hts, hr, hi, hK⟩ := _root_.id hC
  obtain ⟨q, h1, cell, q1, q2, q3, q4⟩ := (hW.2.2.2 id _ hsh).2
  have hq : q = (C, T, N) := Option.some.inj (h1.symm.trans f1)
  subst hq
  obtain ⟨hS, hfc, kC, hkC, hkind⟩ := hK.1 ci _ f1
  obtain ⟨cf, kf, fi, f, hfi, hsl⟩ := hS k f2
  refine W.getf hx hb hown (hts _ f4) hfi (u_facts hfc hkC (u_lays hts f3 f2) hfi).1 q1 (by rw [q3]; exact fun h => by cases h) (v := v) ?_ rfl rfl hd (kk p l e s m args below meth c K H locs ls hC hW hL hl hk)
  rw [hsl, q4 k f2]
  exact congrArg some hv
theorem n_geti {idx ci k id : Nat} (hf : yb_fl own idx ci k) (hsh : M.2.2.2.1 id = some (.inl ci)) (hty : yb_small (vwTy ci k) = true) (hd : decode cc pc = .ok (.getfield idx, 3)) (kk : Rn G own cc nL ret ini R Q ce sl (pc + 3) vs (.int (M.1 id k) :: st) M) : Rn G own cc nL ret ini R Q ce sl pc vs (.ref (yb_ad G id) :: st) M :=
  n_get hf hsh (yb_v_int hty) hd kk
theorem n_getr {idx ci k id j : Nat} (hf : yb_fl own idx ci k) (hsh : M.2.2.2.1 id = some (.inl ci)) (hty : (vwTy ci k).isReference = true) (hR : M.2.2.1 id k = some j) (hd : decode cc pc = .ok (.getfield idx, 3)) (kk : Rn G own cc nL ret ini R Q ce sl (pc + 3) vs (.ref (yb_ad G j) :: st) M) : Rn G own cc nL ret ini R Q ce sl pc vs (.ref (yb_ad G id) :: st) M :=
  n_get hf hsh ((yb_v_ref hty).trans (by rw [hR]; rfl)) hd kk
theorem n_put {idx ci k id : Nat} {v : Value} (hf : yb_fp own idx ci k) (hsh : M.2.2.2.1 id = some (.inl ci)) (hn : narrow (vwTy ci k) v = v) (hfit : fits (vwTy ci k) v = true) (M' : yb_M) (hM : M'.2.2.2 = M.2.2.2) (hoth : ∀ (id' k' : Nat) (ty : FieldType), id' ≠ id → yb_v G M' ty id' k' = yb_v G M ty id' k')
    (hself : ∀ k' : Nat, yb_v G M' (vwTy ci k') id k' = updV (fun j => yb_v G M (vwTy ci j) id j) k v k') (hd : decode cc pc = .ok (.putfield idx, 3)) (kk : Rn G own cc nL ret ini R Q ce sl (pc + 3) vs st M') : Rn G own cc nL ret ini R Q ce sl pc vs (v :: .ref (yb_ad G id) :: st) M := by
  intro p l e s m args below meth c K H locs ls hC hW hL hl hk
  obtain ⟨⟨C, T, N⟩, f1, f2, f3, f4, f5, f6, f7⟩ := hf
  obtain ⟨hx, hb, hml, hown, hts, hr, hi, hK⟩ := _root_.id hC
  obtain ⟨q, h1, cell, q1, q2, q3, q4⟩ := (hW.2.2.2 id _ hsh).2
  have hq : q = (C, T, N) := Option.some.inj (h1.symm.trans f1)
  subst hq
  have hap : ∀ x y, x < N → y < N → x ≠ y → ((yb_D G).2 ci) x ≠ ((yb_D G).2 ci) y := by
    intro x y hx hy hne
    obtain ⟨hS, -⟩ := hK.1 ci _ f1
    obtain ⟨_, _, _, fa, hia, ea⟩ := hS x hx
    obtain ⟨_, _, _, fb, hib, eb⟩ := hS y hy
    rw [← ea, ← eb]
    refine u_apart (u_lays hts f3 hx) (u_lays hts f3 hy) hia hib ?_
    rw [(State.fieldFound?_type hia (f6 x hx)).1, (State.fieldFound?_type hib (f6 y hy)).1]
    exact f7 x hx y hy hne
  obtain ⟨hS, hfc, kC, hkC, hkind⟩ := hK.1 ci _ f1
  obtain ⟨cf, kf, fi, f, hfi, hsl⟩ := hS k f2
  have hlay := hts _ (f3 _ (u_in_lay f2))
  unfold u_lay at hlay
  rw [if_neg (by rw [f5]; decide)] at hlay
  have hst := (u_facts hfc hkC (u_lays hts f3 f2) hfi).1
  have h6 := u_store hfc hkC hkind hlay hfi (f6 k f2) hn hfit
  refine W.putK hx hb (f := f) ⟨hown, hts _ f4, ⟨_, _, _, hfi⟩, hst⟩ (by rw [q2]; exact h6) q1 q3 (by rw [hsl]; exact k2_hasslot (q4 k f2)) rfl rfl hd fun H' e1 e2 e3 => ?_
  rw [hsl] at e1
  refine kk p l e s m args below meth c K H' _ ls hC (hW.put hsh hM hoth e2 e3 ⟨_, f1, t_OB.to (V := updV (fun j => yb_v G M (vwTy ci j) id j) k v) ⟨_, e1, q2, q3, t_set q4 hap f2 v⟩ (fun j _ => (hself j).symm)⟩) (hL.put (hW.lt hsh)) hl hk
theorem n_puti {idx ci k id : Nat} {x : Int32} (hf : yb_fp own idx ci k) (hsh : M.2.2.2.1 id = some (.inl ci)) (hty : yb_small (vwTy ci k) = true) (hn : narrow (vwTy ci k) (.int x) = .int x) (hfit : fits (vwTy ci k) (.int x) = true) (hd : decode cc pc = .ok (.putfield idx, 3)) (kk : Rn G own cc nL ret ini R Q ce sl (pc + 3) vs st (yb_setI M id k x)) : Rn G own cc nL ret ini R Q ce sl pc vs (.int x :: .ref (yb_ad G id) :: st) M := by
  refine n_put hf hsh hn hfit (yb_setI M id k x) rfl (fun _ _ _ h => yb_v_setI _ _ _ h) (fun k' => ?_) hd kk
  by_cases h : k' = k
  · subst h
    rw [yb_v_int hty]
    simp [updV, yb_setI, yb_u]
  · simp only [updV, if_neg h]
    cases hc : vwTy ci k' <;> simp [yb_v, yb_setI, yb_u, h]
theorem yb_W.arr {H : Heap} {id n : Nat} {ty : FieldType} (hW : yb_W G M H) (hsh : M.2.2.2.1 id = some (.inr (ty, n))) : H[yb_ad G id]? = some (arrV (yb_ac G ty) n (fun k => yb_v G M ty id k)) := (hW.2.2.2 id _ hsh).2
theorem yb_K.arr {s : State} {n : Nat} {ty : FieldType} {f : Nat → Value} (hK : yb_K G s) (ht : ty ∈ yb_tys) : s.isArrayOf (arrV (yb_ac G ty) n f) ty := (hK.2.1 ty ht).1 n f
theorem yb_lt {i : Int32} {n : Nat} (h : vp_in i n) : i.toNatClampNeg < n := Nat.not_le.mp fun q => h (Or.inr q)
theorem n_iald {id n : Nat} {i : Int32} (hsh : M.2.2.2.1 id = some (.inr (.int, n))) (hin : vp_in i n) (hd : decode cc pc = .ok (.iaload, 1)) (kk : Rn G own cc nL ret ini R Q ce sl (pc + 1) vs (.int (M.1 id i.toNatClampNeg) :: st) M) : Rn G own cc nL ret ini R Q ce sl pc vs (.int i :: .ref (yb_ad G id) :: st) M := by
  intro p l e s m args below meth c K H locs ls hC hW hL hl hk
  exact W.iald (v := .int (M.1 id i.toNatClampNeg)) hC.1 hC.2.1 (hW.arr hsh) (yb_K.arr hC.2.2.2.2.2.2.2 (by decide)) (fun q => by cases q) (by rw [arrV_size]; exact hin) (by rw [arrV_read _ _ (yb_lt hin)]; rfl) rfl rfl hd (kk p l e s m args below meth c K H locs ls hC hW hL hl hk)
theorem n_bald {id n : Nat} {i : Int32} (hsh : M.2.2.2.1 id = some (.inr (.byte, n))) (hin : vp_in i n) (hd : decode cc pc = .ok (.baload, 1)) (kk : Rn G own cc nL ret ini R Q ce sl (pc + 1) vs (.int (M.1 id i.toNatClampNeg) :: st) M) : Rn G own cc nL ret ini R Q ce sl pc vs (.int i :: .ref (yb_ad G id) :: st) M := by
  intro p l e s m args below meth c K H locs ls hC hW hL hl hk
  exact W.bald (v := .int (M.1 id i.toNatClampNeg)) hC.1 hC.2.1 (hW.arr hsh) (yb_K.arr hC.2.2.2.2.2.2.2 (by decide)) (fun q => by cases q) (by rw [arrV_size]; exact hin) (by rw [arrV_read _ _ (yb_lt hin)]; rfl) rfl rfl hd (kk p l e s m args below meth c K H locs ls hC hW hL hl hk)
theorem n_zald {id n : Nat} {i : Int32} (hsh : M.2.2.2.1 id = some (.inr (.boolean, n))) (hin : vp_in i n) (hd : decode cc pc = .ok (.baload, 1)) (kk : Rn G own cc nL ret ini R Q ce sl (pc + 1) vs (.int (M.1 id i.toNatClampNeg) :: st) M) : Rn G own cc nL ret ini R Q ce sl pc vs (.int i :: .ref (yb_ad G id) :: st) M := by
  intro p l e s m args below meth c K H locs ls hC hW hL hl hk
  exact W.zald (v := .int (M.1 id i.toNatClampNeg)) hC.1 hC.2.1 (hW.arr hsh) (yb_K.arr hC.2.2.2.2.2.2.2 (by decide)) (fun q => by cases q) (by rw [arrV_size]; exact hin) (by rw [arrV_read _ _ (yb_lt hin)]; rfl) rfl rfl hd (kk p l e s m args below meth c K H locs ls hC hW hL hl hk)
theorem n_lald {id n : Nat} {i : Int32} (hsh : M.2.2.2.1 id = some (.inr (.long, n))) (hin : vp_in i n) (hd : decode cc pc = .ok (.laload, 1)) (kk : Rn G own cc nL ret ini R Q ce sl (pc + 1) vs (.long (M.2.1 id i.toNatClampNeg) :: st) M) : Rn G own cc nL ret ini R Q ce sl pc vs (.int i :: .ref (yb_ad G id) :: st) M := by
  intro p l e s m args below meth c K H locs ls hC hW hL hl hk
  exact W.lald (v := .long (M.2.1 id i.toNatClampNeg)) hC.1 hC.2.1 (hW.arr hsh) (yb_K.arr hC.2.2.2.2.2.2.2 (by decide)) (fun q => by cases q) (by rw [arrV_size]; exact hin) (by rw [arrV_read _ _ (yb_lt hin)]; rfl) rfl rfl hd (kk p l e s m args below meth c K H locs ls hC hW hL hl hk)
theorem n_aald {id n j : Nat} {i : Int32} {ty : FieldType} (hsh : M.2.2.2.1 id = some (.inr (ty, n))) (ht : ty ∈ yb_tys) (hty : ty.isReference = true) (hin : vp_in i n) (hR : M.2.2.1 id i.toNatClampNeg = some j) (hd : decode cc pc = .ok (.aaload, 1)) (kk : Rn G own cc nL ret ini R Q ce sl (pc + 1) vs (.ref (yb_ad G j) :: st) M) : Rn G own cc nL ret ini R Q ce sl pc vs (.int i :: .ref (yb_ad G id) :: st) M := by
  intro p l e s m args below meth c K H locs ls hC hW hL hl hk
  exact W.aald (v := .ref (yb_ad G j)) (ty := ty) hC.1 hC.2.1 (hW.arr hsh) (yb_K.arr hC.2.2.2.2.2.2.2 ht) hty (fun q => by cases q) (by rw [arrV_size]; exact hin) (by rw [arrV_read _ _ (yb_lt hin), yb_v_ref hty, hR]; rfl) rfl rfl hd (kk p l e s m args below meth c K H locs ls hC hW hL hl hk)
theorem n_alen {id n : Nat} {ty : FieldType} (hsh : M.2.2.2.1 id = some (.inr (ty, n))) (ht : ty ∈ yb_tys) (hd : decode cc pc = .ok (.arraylength, 1)) (kk : Rn G own cc nL ret ini R Q ce sl (pc + 1) vs (.int (Int32.ofNat n) :: st) M) : Rn G own cc nL ret ini R Q ce sl pc vs (.ref (yb_ad G id) :: st) M := by
  intro p l e s m args below meth c K H locs ls hC hW hL hl hk
  exact W.alen (n := Int32.ofNat n) hC.1 hC.2.1 (hW.arr hsh) (yb_K.arr hC.2.2.2.2.2.2.2 ht) (by rw [arrV_size] <;> rfl) rfl rfl hd (kk p l e s m args below meth c K H locs ls hC hW hL hl hk)
theorem n_slen (hd : decode cc pc = .ok (.arraylength, 1)) (kk : Rn G own cc nL ret ini R Q ce sl (pc + 1) vs (.int (Int32.ofNat (yb_n G)) :: st) M) : Rn G own cc nL ret ini R Q ce sl pc vs (.ref (yb_b G) :: st) M := by
  intro p l e s m args below meth c K H locs ls hC hW hL hl hk
  obtain ⟨⟨scr, h1, h2, h3, h4, h5⟩, hbl⟩ := hC.2.2.2.2.2.2.2.2.2.2.2.1
  exact W.alen (n := Int32.ofNat (yb_n G)) hC.1 hC.2.1 (by rw [hW.2.2.1 _ hbl]; exact h1) h2 (by rw [h4] <;> rfl) rfl rfl hd (kk p l e s m args below meth c K H locs ls hC hW hL hl hk)
theorem n_sld {i : Int32} (hin : vp_in i (yb_n G)) (hd : decode cc pc = .ok (.iaload, 1)) (kk : Rn G own cc nL ret ini R Q ce sl (pc + 1) vs (.int (yb_xs G i.toNatClampNeg) :: st) M) : Rn G own cc nL ret ini R Q ce sl pc vs (.int i :: .ref (yb_b G) :: st) M := by
  intro p l e s m args below meth c K H locs ls hC hW hL hl hk
  obtain ⟨⟨scr, h1, h2, h3, h4, h5⟩, hbl⟩ := hC.2.2.2.2.2.2.2.2.2.2.2.1
  exact W.iald (v := .int (yb_xs G i.toNatClampNeg)) hC.1 hC.2.1 (by rw [hW.2.2.1 _ hbl]; exact h1) h2 h3 (by rw [h4]; exact hin) (h5 _ (yb_lt hin)) rfl rfl hd (kk p l e s m args below meth c K H locs ls hC hW hL hl hk)
theorem n_iast {id n : Nat} {i x : Int32} (hsh : M.2.2.2.1 id = some (.inr (.int, n))) (hin : vp_in i n) (hd : decode cc pc = .ok (.iastore, 1)) (kk : Rn G own cc nL ret ini R Q ce sl (pc + 1) vs st (yb_setI M id i.toNatClampNeg x)) : Rn G own cc nL ret ini R Q ce sl pc vs (.int x :: .int i :: .ref (yb_ad G id) :: st) M := by
  intro p l e s m args below meth c K H locs ls hC hW hL hl hk
  refine W.iast hC.1 hC.2.1 (hW.arr hsh) (yb_K.arr hC.2.2.2.2.2.2.2 (by decide)) (fun q => by cases q) (by rw [arrV_size]; exact hin) rfl rfl hd fun H' e1 e2 e3 => ?_
  refine kk p l e s m args below meth c K H' _ ls hC (hW.put (M' := yb_setI M id i.toNatClampNeg x) hsh rfl (fun _ _ _ h => yb_v_setI _ _ _ h) e2 e3 ?_) (hL.put (hW.lt hsh)) hl hk
  show H'[yb_ad G id]? = _
  rw [e1, arrV_store]
  refine congrArg (fun f => some (arrV _ n f)) (funext fun q => ?_)
  by_cases hq : q = i.toNatClampNeg
  · subst hq
    simp [updV, yb_v, yb_setI, yb_u, vp_nar]
    try rfl
  · simp [updV, yb_v, yb_setI, yb_u, hq]
theorem n_bast {id n : Nat} {i x : Int32} (hsh : M.2.2.2.1 id = some (.inr (.byte, n))) (hin : vp_in i n) (hd : decode cc pc = .ok (.bastore, 1)) (kk : Rn G own cc nL ret ini R Q ce sl (pc + 1) vs st (yb_setI M id i.toNatClampNeg (vp_nar .byte x))) : Rn G own cc nL ret ini R Q ce sl pc vs (.int x :: .int i :: .ref (yb_ad G id) :: st) M := by
  intro p l e s m args below meth c K H locs ls hC hW hL hl hk
  refine W.bast hC.1 hC.2.1 (hW.arr hsh) (yb_K.arr hC.2.2.2.2.2.2.2 (by decide)) (fun q => by cases q) (by rw [arrV_size]; exact hin) rfl rfl hd fun H' e1 e2 e3 => ?_
  refine kk p l e s m args below meth c K H' _ ls hC (hW.put (M' := yb_setI M id i.toNatClampNeg (vp_nar .byte x)) hsh rfl (fun _ _ _ h => yb_v_setI _ _ _ h) e2 e3 ?_) (hL.put (hW.lt hsh)) hl hk
  show H'[yb_ad G id]? = _
  rw [e1, arrV_store]
  refine congrArg (fun f => some (arrV _ n f)) (funext fun q => ?_)
  by_cases hq : q = i.toNatClampNeg
  · subst hq
    simp [updV, yb_v, yb_setI, yb_u, vp_nar]
    try rfl
  · simp [updV, yb_v, yb_setI, yb_u, hq]
theorem n_zast {id n : Nat} {i x : Int32} (hsh : M.2.2.2.1 id = some (.inr (.boolean, n))) (hin : vp_in i n) (hd : decode cc pc = .ok (.bastore, 1)) (kk : Rn G own cc nL ret ini R Q ce sl (pc + 1) vs st (yb_setI M id i.toNatClampNeg (vp_nar .boolean x))) : Rn G own cc nL ret ini R Q ce sl pc vs (.int x :: .int i :: .ref (yb_ad G id) :: st) M := by
  intro p l e s m args below meth c K H locs ls hC hW hL hl hk
  refine W.zast hC.1 hC.2.1 (hW.arr hsh) (yb_K.arr hC.2.2.2.2.2.2.2 (by decide)) (fun q => by cases q) (by rw [arrV_size]; exact hin) rfl rfl hd fun H' e1 e2 e3 => ?_
  refine kk p l e s m args below meth c K H' _ ls hC (hW.put (M' := yb_setI M id i.toNatClampNeg (vp_nar .boolean x)) hsh rfl (fun _ _ _ h => yb_v_setI _ _ _ h) e2 e3 ?_) (hL.put (hW.lt hsh)) hl hk
  show H'[yb_ad G id]? = _
  rw [e1, arrV_store]
  refine congrArg (fun f => some (arrV _ n f)) (funext fun q => ?_)
  by_cases hq : q = i.toNatClampNeg
  · subst hq
    simp [updV, yb_v, yb_setI, yb_u, vp_nar]
    try rfl
  · simp [updV, yb_v, yb_setI, yb_u, hq]
theorem n_last {id n : Nat} {i : Int32} {x : Int64} (hsh : M.2.2.2.1 id = some (.inr (.long, n))) (hin : vp_in i n) (hd : decode cc pc = .ok (.lastore, 1)) (kk : Rn G own cc nL ret ini R Q ce sl (pc + 1) vs st (yb_setL M id i.toNatClampNeg x)) : Rn G own cc nL ret ini R Q ce sl pc vs (.long x :: .int i :: .ref (yb_ad G id) :: st) M := by
  intro p l e s m args below meth c K H locs ls hC hW hL hl hk
  refine W.last hC.1 hC.2.1 (hW.arr hsh) (yb_K.arr hC.2.2.2.2.2.2.2 (by decide)) (fun q => by cases q) (by rw [arrV_size]; exact hin) rfl rfl hd fun H' e1 e2 e3 => ?_
  refine kk p l e s m args below meth c K H' _ ls hC (hW.put (M' := yb_setL M id i.toNatClampNeg x) hsh rfl (fun _ _ _ h => yb_v_setL _ _ _ h) e2 e3 ?_) (hL.put (hW.lt hsh)) hl hk
  show H'[yb_ad G id]? = _
  rw [e1, arrV_store]
  refine congrArg (fun f => some (arrV _ n f)) (funext fun q => ?_)
  by_cases hq : q = i.toNatClampNeg
  · subst hq
    simp [updV, yb_v, yb_setL, yb_u]
  · simp [updV, yb_v, yb_setL, yb_u, hq]
end YH
def yb_okv (ret : Option FieldType) : Option Value → Prop
  | none => ret = none
  | some (.int x) => ∃ ty, ret = some ty ∧ narrow ty (.int x) = .int x
  | some (.long _) => ret = some .long
  | _ => False
/-- a method's contract: from these arguments over this memory it returns as Q tells -/
def Ct (G : yb_G) (y : MethodName) (cc : ByteArray) (nL : Nat) (ret : Option FieldType) (rm : Room) (As : List Value) (M : yb_M) (Q : Option Value → yb_M → Prop) : Prop :=
  ∀ l : Launch, Met l y (Cond.code y cc nL ret :: yb_gw) rm (va_Pc As (fun U => yb_K G U ∧ yb_W G M U.heap)) (fun _ _ o t => ∃ (v : Option Value) (M' : yb_M), o = .returned v ∧ yb_okv ret v ∧ Q v M' ∧ yb_W G M' t.heap) rm.cells rm.slots (fun q => yb_h0 G ≤ q)
set_option maxHeartbeats 4000000 in
theorem Ct.of {G : yb_G} {y : MethodName} {cc : ByteArray} {nL : Nat} {ret : Option FieldType} {rm : Room} {As : List Value} {M : yb_M} {Q : Option Value → yb_M → Prop} {own : String} {ini : Bool} {vs : List (Option Value)} (hy : y.cls = own ∧ plainName y.cls = true) (hini : ini = true → y.name = "<init>") (hlen : (lg_sl As).length ≤ nL) (hvs : yb_ix 0 vs = lv_args 0 As)
    (h : Rn G own cc nL ret ini rm Q 0 0 0 vs [] M) : Ct G y cc nL ret rm As M Q := by
  intro l
  refine Met.ofW (cc := cc) (maxL := nL) (ret := ret) hy.2 rfl ?_
  intro p e s m args' below meth c s₁ B hml hv
  obtain ⟨rfl, hK, hW⟩ := hv
  have hts := atoms_spec (ws := Cond.code y cc nL ret :: yb_gw) B.pre
  have hown : s.vm.findClass own = some m.cls := hy.1 ▸ findClass_of_methodNamed B.named
  have hin : ini = true → meth.name = "<init>" := fun hi => ((name_of_methodNamed B.named B.method).1).trans (hini hi)
  have hl := lv_entry As (n := nL) hlen
  rw [lg_entry_eq]
  generalize (lg_sl As ++ List.replicate (nL - (lg_sl As).length) Slot.unset).toArray = ls at hl ⊢
  rw [← hvs] at hl
  have hlocks := B.notSynchronized
  refine h p l e s m _ below meth c _ s.heap [] ls ⟨B.exec, B.bytes, hml, hown, fun w hw => hts w (List.mem_cons_of_mem _ hw), B.returns, hin, hK⟩ hW (fun q hq => by cases hq) hl ?_
  intro v M' H' locs' ls' pc' ce' sl' hret hQ hW' hL' hc hs
  refine W.widen (k := rm.cells) (n := rm.slots) hc hs ?_
  cases v with
  | none => exact W.vret B.exec B.bytes (B.returns.trans hret.2) (fun t ht hWt => ⟨none, M', rfl, hret.2, hQ, by rw [ht]; exact hW'⟩) hL' hret.1
  | some x =>
    cases x with
    | int x =>
      obtain ⟨hd, ty, h1, h2⟩ := hret
      exact W.zret B.exec B.bytes (B.returns.trans h1) h2 (fun t ht hWt => ⟨some (.int x), M', rfl, ⟨ty, h1, h2⟩, hQ, by rw [ht]; exact hW'⟩) hL' hd
    | long x => exact W.lret B.exec B.bytes (B.returns.trans hret.2) (fun t ht hWt => ⟨some (.long x), M', rfl, hret.2, hQ, by rw [ht]; exact hW'⟩) hL' hret.1
    | _ => exact hret.elim
theorem yb_blind {G : yb_G} {As : List Value} {M : yb_M} : FrameBlind (va_Pc As (fun U => yb_K G U ∧ yb_W G M U.heap)) := fun _ _ _ _ h => ⟨h.1, h.2.1.blind, h.2.2⟩
/-- the words of a call, but its link -/
def yb_cw (y : MethodName) (bytes : ByteArray) (maxL : Nat) (rt : Option FieldType) (n : Nat) : Prop :=
  Cond.code y bytes maxL rt ∈ yb_gw ∧ Cond.initialized y.cls ∈ yb_gw ∧ (y.cls ≠ "java/lang/invoke/MethodHandle" ∧ y.cls ≠ "java/lang/invoke/VarHandle") ∧ (parseMethodDescriptor y.desc).map (fun d => d.parameters.length) = some n
def yb_cV (own : String) (index ci : Nat) (y : MethodName) (bytes : ByteArray) (maxL : Nat) (rt : Option FieldType) (n : Nat) : Prop :=
  yb_cw y bytes maxL rt n ∧ Cond.methodLink own index y ∈ yb_gw ∧ Cond.instanceMethod y ∈ yb_gw ∧ Cond.selects y.cls y y ∈ yb_gw ∧ ∃ (T : u_T) (N : Nat), vwCl[ci]? = some (y.cls, T, N)
def yb_cS (own : String) (index : Nat) (y : MethodName) (bytes : ByteArray) (maxL : Nat) (rt : Option FieldType) (n : Nat) : Prop :=
  yb_cw y bytes maxL rt n ∧ Cond.methodLink own index y ∈ yb_gw ∧ Cond.static y ∈ yb_gw
def yb_cI (own : String) (index : Nat) (y : MethodName) (bytes : ByteArray) (maxL : Nat) (n : Nat) : Prop :=
  yb_cw y bytes maxL none n ∧ Cond.methodLink own index y ∈ yb_gw ∧ Cond.instanceMethod y ∈ yb_gw ∧ y.name = "<init>"
def yb_cN (own : String) (index : Nat) (y : MethodName) (host : String) (bytes : ByteArray) (maxL : Nat) (n : Nat) : Prop :=
  yb_cw y bytes maxL none n ∧ Cond.methodLinkNest own index y host ∈ yb_nest ∧ Cond.instanceMethod y ∈ yb_gw ∧ y.name = "<init>"
theorem yb_cw.B {G : yb_G} {own : String} {cc : ByteArray} {nL : Nat} {ret : Option FieldType} {ini : Bool} {p : Program} {s : State} {m : MethodId} {args : Array Value} {meth : Method} {c : Code} {y : MethodName} {bytes : ByteArray} {maxL n index : Nat} {rt : Option FieldType} {rm R : Room} (hC : yb_C G own cc nL ret ini p s m args meth c) (h : yb_cw y bytes maxL rt n) (hlink : Cond.methodLink own index y ∈ yb_gw) (hR : rm.frames + 1 ≤ R.frames ∧ 8 + (maxL + 11) + rm.locals ≤ R.locals) :
    CallB R s args own index y bytes maxL rt (Cond.code y bytes maxL rt :: yb_gw) rm rm.cells rm.slots n := by
  obtain ⟨h1, h2, h3, h4⟩ := h
  have hts := hC.2.2.2.2.1
  refine ⟨rfl, rfl, hR.1, hR.2, pay_in hts (yb_gw_good (fun w hw => ?_)), List.mem_cons_self, hts _ h1, hts _ h2, h3, fun sig hs => ?_, hts _ hlink⟩
  · rcases List.mem_cons.mp hw with rfl | hw
    · exact h1
    · exact hw
  · rw [hs] at h4
    exact (Option.some.inj h4).symm
theorem yb_cw.N {G : yb_G} {own host : String} {cc : ByteArray} {nL : Nat} {ret : Option FieldType} {ini : Bool} {p : Program} {s : State} {m : MethodId} {args : Array Value} {meth : Method} {c : Code} {y : MethodName} {bytes : ByteArray} {maxL n index : Nat} {rt : Option FieldType} {rm R : Room} (hC : yb_C G own cc nL ret ini p s m args meth c) (h : yb_cw y bytes maxL rt n) (hlink : Cond.methodLinkNest own index y host ∈ yb_nest) (hR : rm.frames + 1 ≤ R.frames ∧ 8 + (maxL + 11) + rm.locals ≤ R.locals) :
    va_CN R s args own index y host bytes maxL rt (Cond.code y bytes maxL rt :: yb_gw) rm rm.cells rm.slots n := by
  obtain ⟨h1, h2, h3, h4⟩ := h
  have hts := hC.2.2.2.2.1
  refine ⟨⟨rfl, rfl, hR.1, hR.2, pay_in hts (yb_gw_good (fun w hw => ?_)), List.mem_cons_self⟩, hts _ h1, hts _ h2, h3, fun sig hs => ?_, va_Nw.use rfl (hC.2.2.2.2.2.2.2.2.2.1 _ hlink)⟩
  · rcases List.mem_cons.mp hw with rfl | hw
    · exact h1
    · exact hw
  · rw [hs] at h4
    exact (Option.some.inj h4).symm
section YC
variable {G : yb_G} {own : String} {cc : ByteArray} {nL : Nat} {ret : Option FieldType} {ini : Bool} {R : Room} {Q : Option Value → yb_M → Prop} {ce sl pc : Nat} {vs : List (Option Value)} {st : List Value} {M : yb_M}
theorem yb_run {p : Program} {l : Launch} {e : Env} {s : State} {m : MethodId} {args : Array Value} {below : List Frame} {meth : Method} {c : Code} {H : Heap} {locs : List Loc} {cells slots mc ms : Nat} {K : State → Prop} {ls : Array Slot} {st0 rest : List Value} {Qa : State → Outcome → State → Prop}
    (hr : va_Run p l e R s m args below meth c H locs cells slots mc ms (F0 m pc ls st0) rest Qa (fun q => yb_h0 G ≤ q)) (hL : yb_Lo G locs)
    (kk : ∀ (v : Option Value) (st₀ t : State) (locs1 : List Loc), Qa st₀ (.returned v) t → yb_Lo G locs1 → W p l e R s m args below meth c t.heap locs1 (cells + mc) (slots + ms) K (F0 m (pc + 3) ls (v.toList ++ rest))) : W p l e R s m args below meth c H locs cells slots K (F0 m pc ls st0) := by
  intro T hT X
  obtain ⟨v, st₀, t, T', L, h0, X', hL', e1, e2, hq, st⟩ := hr T hT X
  obtain ⟨t2, a1, b1⟩ := kk v st₀ t (locs ++ L) hq (fun q hq => by
    rcases List.mem_append.mp hq with h | h
    · exact hL q h
    · exact hL' q h) T' e1 X'
  exact ⟨t2, st t2 a1, b1⟩
theorem n_callV {index ci id n maxL : Nat} {y : MethodName} {bytes : ByteArray} {rt : Option FieldType} {rm : Room} {As st0 : List Value} {Q' : Option Value → yb_M → Prop} (hM : Ct G y bytes maxL rt rm (.ref (yb_ad G id) :: As) M Q') (hw : yb_cV own index ci y bytes maxL rt n) (hsh : M.2.2.2.1 id = some (.inl ci)) (hn : As.length = n) (hst : st0 = As.reverse ++ .ref (yb_ad G id) :: st)
    (hsum : (st.map fun v => v.category).sum ≤ 8) (hd : decode cc pc = .ok (.invokevirtual index, 3)) (hR : rm.frames + 1 ≤ R.frames ∧ 8 + (maxL + 11) + rm.locals ≤ R.locals) (hc : ce + rm.cells ≤ R.cells ∧ sl + rm.slots ≤ R.slots)
    (kk : ∀ (v : Option Value) (M' : yb_M), yb_okv rt v → Q' v M' → Rn G own cc nL ret ini R Q (ce + rm.cells) (sl + rm.slots) (pc + 3) vs (v.toList ++ st) M') : Rn G own cc nL ret ini R Q ce sl pc vs st0 M := by
  intro p l e s m args below meth c K H locs ls hC hW hL hl hk
  obtain ⟨w0, w1, w2, w3, T, N, w4⟩ := hw
  have hts := hC.2.2.2.2.1
  obtain ⟨q, h1, cell, q1, q2, q3, q4⟩ := (hW.2.2.2 id _ hsh).2
  have hq : q = (y.cls, T, N) := Option.some.inj (h1.symm.trans w4)
  subst hq
  refine yb_run (va_runV (C := y.cls) (As := As) (rest := st) (b := yb_ad G id) ⟨hC.1, hC.2.1, hC.2.2.1, hC.2.2.2.1, hts⟩ (hM l) ⟨yb_cw.B hC w0 w1 hR, hts _ w2, hts _ w3⟩ ⟨yb_blind, ⟨cell, q1, by rw [q3]; rfl, by rw [q2]; exact (hC.2.2.2.2.2.2.2.1 ci _ w4).2.1⟩, fun U hU hWU => ⟨rfl, hC.2.2.2.2.2.2.2.warm hWU, by rw [hU]; exact hW⟩⟩ rfl hn hl.1 hst (lv_room hsum) hd hc) hL (fun v st₀ t locs1 hq hL1 => ?_)
  obtain ⟨v', M', hv, hok, hQ, hW'⟩ := hq
  cases hv
  exact kk v M' hok hQ p l e s m args below meth c K _ locs1 ls hC hW' hL1 hl hk
theorem n_callS {index n maxL : Nat} {y : MethodName} {bytes : ByteArray} {rt : Option FieldType} {rm : Room} {As st0 : List Value} {Q' : Option Value → yb_M → Prop} (hM : Ct G y bytes maxL rt rm As M Q') (hw : yb_cS own index y bytes maxL rt n) (hn : As.length = n) (hst : st0 = As.reverse ++ st)
    (hsum : (st.map fun v => v.category).sum ≤ 8) (hd : decode cc pc = .ok (.invokestatic index, 3)) (hR : rm.frames + 1 ≤ R.frames ∧ 8 + (maxL + 11) + rm.locals ≤ R.locals) (hc : ce + rm.cells ≤ R.cells ∧ sl + rm.slots ≤ R.slots)
    (kk : ∀ (v : Option Value) (M' : yb_M), yb_okv rt v → Q' v M' → Rn G own cc nL ret ini R Q (ce + rm.cells) (sl + rm.slots) (pc + 3) vs (v.toList ++ st) M') : Rn G own cc nL ret ini R Q ce sl pc vs st0 M := by
  intro p l e s m args below meth c K H locs ls hC hW hL hl hk
  obtain ⟨w0, w1, w2⟩ := hw
  have hts := hC.2.2.2.2.1
  refine yb_run (va_runS (As := As) (rest := st) ⟨hC.1, hC.2.1, hC.2.2.1, hC.2.2.2.1, hts⟩ (hM l) ⟨yb_cw.B hC w0 w1 hR, hts _ w2⟩ ⟨yb_blind, fun U hU hWU => ⟨rfl, hC.2.2.2.2.2.2.2.warm hWU, by rw [hU]; exact hW⟩⟩ rfl hn hl.1 hst (lv_room hsum) hd hc) hL (fun v st₀ t locs1 hq hL1 => ?_)
  obtain ⟨v', M', hv, hok, hQ, hW'⟩ := hq
  cases hv
  exact kk v M' hok hQ p l e s m args below meth c K _ locs1 ls hC hW' hL1 hl hk
theorem n_callI {index n maxL : Nat} {b : Nat} {y : MethodName} {bytes : ByteArray} {rm : Room} {As st0 : List Value} {Q' : Option Value → yb_M → Prop} (hM : Ct G y bytes maxL none rm (.ref b :: As) M Q') (hw : yb_cI own index y bytes maxL n) (hn : As.length = n) (hst : st0 = As.reverse ++ .ref b :: st)
    (hsum : (st.map fun v => v.category).sum ≤ 8) (hd : decode cc pc = .ok (.invokespecial index, 3)) (hR : rm.frames + 1 ≤ R.frames ∧ 8 + (maxL + 11) + rm.locals ≤ R.locals) (hc : ce + rm.cells ≤ R.cells ∧ sl + rm.slots ≤ R.slots)
    (kk : ∀ (v : Option Value) (M' : yb_M), yb_okv none v → Q' v M' → Rn G own cc nL ret ini R Q (ce + rm.cells) (sl + rm.slots) (pc + 3) vs (v.toList ++ st) M') : Rn G own cc nL ret ini R Q ce sl pc vs st0 M := by
  intro p l e s m args below meth c K H locs ls hC hW hL hl hk
  obtain ⟨w0, w1, w2, w3⟩ := hw
  have hts := hC.2.2.2.2.1
  refine yb_run (va_runI (As := As) (rest := st) (b := b) ⟨hC.1, hC.2.1, hC.2.2.1, hC.2.2.2.1, hts⟩ (hM l) ⟨yb_cw.B hC w0 w1 hR, w3, hts _ w2⟩ ⟨yb_blind, fun U hU hWU => ⟨rfl, hC.2.2.2.2.2.2.2.warm hWU, by rw [hU]; exact hW⟩⟩ rfl hn hl.1 hst (lv_room hsum) hd hc) hL (fun v st₀ t locs1 hq hL1 => ?_)
  obtain ⟨v', M', hv, hok, hQ, hW'⟩ := hq
  cases hv
  exact kk v M' hok hQ p l e s m args below meth c K _ locs1 ls hC hW' hL1 hl hk
theorem n_callN {index n maxL : Nat} {b : Nat} {y : MethodName} {host : String} {bytes : ByteArray} {rm : Room} {As st0 : List Value} {Q' : Option Value → yb_M → Prop} (hM : Ct G y bytes maxL none rm (.ref b :: As) M Q') (hw : yb_cN own index y host bytes maxL n) (hn : As.length = n) (hst : st0 = As.reverse ++ .ref b :: st)
    (hsum : (st.map fun v => v.category).sum ≤ 8) (hd : decode cc pc = .ok (.invokespecial index, 3)) (hR : rm.frames + 1 ≤ R.frames ∧ 8 + (maxL + 11) + rm.locals ≤ R.locals) (hc : ce + rm.cells ≤ R.cells ∧ sl + rm.slots ≤ R.slots)
    (kk : ∀ (v : Option Value) (M' : yb_M), yb_okv none v → Q' v M' → Rn G own cc nL ret ini R Q (ce + rm.cells) (sl + rm.slots) (pc + 3) vs (v.toList ++ st) M') : Rn G own cc nL ret ini R Q ce sl pc vs st0 M := by
  intro p l e s m args below meth c K H locs ls hC hW hL hl hk
  obtain ⟨w0, w1, w2, w3⟩ := hw
  have hts := hC.2.2.2.2.1
  refine yb_run (va_runIN (As := As) (rest := st) (b := b) ⟨hC.1, hC.2.1, hC.2.2.1, hC.2.2.2.1, hts⟩ (hM l) ⟨yb_cw.N hC w0 w1 hR, w3, hts _ w2⟩ ⟨yb_blind, fun U hU hWU => ⟨rfl, hC.2.2.2.2.2.2.2.warm hWU, by rw [hU]; exact hW⟩⟩ rfl hn hl.1 hst (lv_room hsum) hd hc) hL (fun v st₀ t locs1 hq hL1 => ?_)
  obtain ⟨v', M', hv, hok, hQ, hW'⟩ := hq
  cases hv
  exact kk v M' hok hQ p l e s m args below meth c K _ locs1 ls hC hW' hL1 hl hk
end YC
