/-! THE CLAIM OUT OF ONE WALK OF THE LAW'S BODY. Your part is whole_start (and what it stands on); all else here is the same for every law, but numbers. -/
def R_law : String := "BedOfficeLaw"
def lw_P (b : Addr) (xs : List Int32) (args : Array Value) (s : State) : Prop := args = #[.ref b] ∧ s.IntsAt b xs ∧ xs.length ≤ 3072 ∧ (Jvm.Cond.and given_1 narrow_1).before args s = true
def lw_Q (_ : Array Value) (s : State) (o : Outcome) (t : State) : Prop := o = .returned (some (.int 1)) ∧ Framed s o t [] 600000 7302249
def lw_Z (below : List Frame) (a : Array Value) (s : State) : State → Prop := fun t => ∃ o, t.status = .running ∧ Ended t below o ∧ lw_Q a s o t
/-- the law's own end, with 1 on the stack, nothing written that was there before, its room as the claim has it -/
theorem lw_ret {p : Program} {l : Launch} {e : Env} {s : State} {m : MethodId} {below : List Frame} {meth : Method} {c : Code} {b : Nat} (hx : p.tables.exec = Jvm.exec) (hb : c.code = code) (hr : meth.sig.returnType = ret) (hlocks : meth.locks = false) {pc : Nat} {H : Heap} {ls : Array Slot} (hdg : decode code pc = .ok (.ireturn, 1)) : W p l e room_1 s m #[Value.ref b] below meth c H [] 600000 7302249 (lw_Z below #[Value.ref b] s) (F0 m pc ls [.int 1]) := by
  intro T hT X
  obtain ⟨fs, hret, hrun, hended, hW, hframe⟩ := X.leave (v := some (.int 1)) (hlocks := hlocks) (fun h => by rw [hr] at h; cases h)
  have hmeth' : T.vm.method? m = some meth := X.method'
  refine ⟨T.setFrames fs, ?_, .returned (some (.int 1)), hrun, hended, rfl, ⟨_, rfl⟩, hW, hframe⟩
  jvm_step X.here [X.here.top, hx, hb, hdg, hmeth', hr, ret, narrow_b1]
  (try refine ⟨rfl, ?_⟩); (try refine ⟨rfl, ?_⟩)
  first | (intro acts; rw [hret _ acts rfl rfl rfl]) | rw [hret _ _ rfl rfl rfl]
  exact Steps.refl _
/-- what holds at the law's entry: the machine, the code, the tables' words (any of lw_tbl by 'hts w (by decide +kernel)'), the script of L ints xs at the cell b, what the Statement gives of the start (any of its parts by flat_of_before) -/
def lw_At (p : Program) (s : State) (m : MethodId) (meth : Method) (c : Code) (b L : Nat) (xs : Nat → Int32) : Prop :=
  p.tables.exec = Jvm.exec ∧ c.code = code ∧ meth.sig.returnType = ret ∧ c.maxLocals = 4 ∧ s.vm.findClass R_law = some m.cls ∧ (∀ w ∈ lw_tbl, w.before #[Value.ref b] s = true) ∧ va_X b L xs s s.heap ∧ b < s.heap.size ∧ meth.locks = false ∧ (Jvm.Cond.and given_1 narrow_1).before #[Value.ref b] s = true
/-! THE START: the run that the Statement gives, in my words -/
theorem st_cls {args : Array Value} {s : State} (hts : ∀ w ∈ lw_tbl, w.before args s = true) : ∃ D : va_G, ∀ (c : Nat) (q : vw_C), vwCl[c]? = some q → u_Kn s q.1 q.2.1 q.2.2 (D.1 c) (D.2 c) := by
  have hg := yb_gw_sub hts
  have h0 : ∀ (k : Nat) (q : vw_C), vwCl[k]? = some q → ∃ x : ClassId × (Nat → Nat), u_Kn s q.1 q.2.1 q.2.2 x.1 x.2 := by
    intro k q hq
    match k, hq with
    | 0, hq => cases hq; obtain ⟨c, iS, h⟩ := u_known (C := RX0) (T := TX0) (N := 2) (n := 2) hg lay_0 (hts (.instantiable RX0 2) (yb_t3 _ (List.mem_of_getElem? (i := 10) rfl))); exact ⟨(c, iS), h⟩
    | 1, hq => cases hq; obtain ⟨c, iS, h⟩ := u_known (C := RX1) (T := TX1) (N := 15) (n := 15) hg lay_1 (hts (.instantiable RX1 15) (yb_t2 _ (List.mem_of_getElem? (i := 195) rfl))); exact ⟨(c, iS), h⟩
    | 2, hq => cases hq; obtain ⟨c, iS, h⟩ := u_known (C := RX2) (T := TX2) (N := 14) (n := 14) hg lay_2 (hts (.instantiable RX2 14) (yb_t1 _ (List.mem_of_getElem? (i := 140) rfl))); exact ⟨(c, iS), h⟩
    | 3, hq => cases hq; obtain ⟨c, iS, h⟩ := u_known (C := RX3) (T := TX3) (N := 5) (n := 5) hg lay_3 (hts (.instantiable RX3 5) (yb_t3 _ (List.mem_of_getElem? (i := 25) rfl))); exact ⟨(c, iS), h⟩
    | 4, hq => cases hq; obtain ⟨c, iS, h⟩ := u_known (C := RX4) (T := TX4) (N := 8) (n := 8) hg lay_4 (hts (.instantiable RX4 8) (yb_t1 _ (List.mem_of_getElem? (i := 95) rfl))); exact ⟨(c, iS), h⟩
    | 5, hq => cases hq; obtain ⟨c, iS, h⟩ := u_known (C := RX5) (T := TX5) (N := 8) (n := 8) hg lay_5 (hts (.instantiable RX5 8) (yb_t2 _ (List.mem_of_getElem? (i := 41) rfl))); exact ⟨(c, iS), h⟩
    | 6, hq => cases hq; obtain ⟨c, iS, h⟩ := u_known (C := RX6) (T := TX6) (N := 6) (n := 6) hg lay_6 (hts (.instantiable RX6 6) (yb_t2 _ (List.mem_of_getElem? (i := 169) rfl))); exact ⟨(c, iS), h⟩
    | 7, hq => cases hq; obtain ⟨c, iS, h⟩ := u_known (C := RX7) (T := TX7) (N := 14) (n := 14) hg lay_7 (hts (.instantiable RX7 14) (yb_t1 _ (List.mem_of_getElem? (i := 224) rfl))); exact ⟨(c, iS), h⟩
    | 8, hq => cases hq; obtain ⟨c, iS, h⟩ := u_known (C := RX8) (T := TX8) (N := 9) (n := 9) hg lay_8 (hts (.instantiable RX8 9) (yb_t1 _ (List.mem_of_getElem? (i := 29) rfl))); exact ⟨(c, iS), h⟩
    | 9, hq => cases hq; obtain ⟨c, iS, h⟩ := u_known (C := RX9) (T := TX9) (N := 12) (n := 12) hg lay_9 (hts (.instantiable RX9 12) (yb_t2 _ (List.mem_of_getElem? (i := 120) rfl))); exact ⟨(c, iS), h⟩
    | 10, hq => cases hq; obtain ⟨c, iS, h⟩ := u_known (C := RX10) (T := TX10) (N := 11) (n := 11) hg lay_10 (hts (.instantiable RX10 11) (yb_t1 _ (List.mem_of_getElem? (i := 35) rfl))); exact ⟨(c, iS), h⟩
    | 11, hq => cases hq; obtain ⟨c, iS, h⟩ := u_known (C := RX11) (T := TX11) (N := 6) (n := 6) hg lay_11 (hts (.instantiable RX11 6) (yb_t1 _ (List.mem_of_getElem? (i := 21) rfl))); exact ⟨(c, iS), h⟩
    | 12, hq => cases hq; obtain ⟨c, iS, h⟩ := u_known (C := RX12) (T := TX12) (N := 86) (n := 86) hg lay_12 (hts (.instantiable RX12 86) (yb_t6 _ (List.mem_of_getElem? (i := 101) rfl))); exact ⟨(c, iS), h⟩
    | k + 13, hq => simp [vwCl] at hq
  have h1 : ∀ k : Nat, ∃ x : ClassId × (Nat → Nat), ∀ q : vw_C, vwCl[k]? = some q → u_Kn s q.1 q.2.1 q.2.2 x.1 x.2 := by
    intro k
    cases hk : vwCl[k]? with
    | none => exact ⟨(0, fun _ => 0), fun q hq => by cases hq⟩
    | some q =>
      obtain ⟨x, hx⟩ := h0 k q hk
      exact ⟨x, fun q' hq' => by cases hq'; exact hx⟩
  obtain ⟨f, hf⟩ := Classical.axiomOfChoice h1
  exact ⟨(fun k => (f k).1, fun k => (f k).2), fun c q hq => hf c q hq⟩
theorem st_prim {args : Array Value} {s : State} {ty : FieldType} (h : (Cond.arrayClass ty).before args s = true) (hp : yb_small ty = true ∨ ty = .long) : ∃ cA : ClassId, ArrOfT s cA ty ∧ va_RA s cA ty := by
  obtain ⟨cA, k, comp, h1, h2, h3⟩ := Cond.arrayClass_spec h
  refine ⟨cA, fun n z => ⟨(fun k h => by cases h), k, h2, comp, h3⟩, ?_⟩
  rcases hp with hp | rfl
  · cases ty <;> first | exact h1 | (simp [yb_small] at hp)
  · exact h1
theorem st_rows {args : Array Value} {s : State} {t : FieldType} (h : (Cond.arrayOver (.array t)).before args s = true) : ∃ cA : ClassId, ArrOfT s cA (.array t) ∧ va_RA s cA (.array t) := by
  obtain ⟨comp, cA, k, h1, h2, h3, h4⟩ := Cond.arrayOver_specA h
  exact ⟨cA, fun n z => ⟨(fun k h => by cases h), k, h2, comp, h3⟩, h4⟩
theorem st_strs {args : Array Value} {s : State} {C : String} (h : (Cond.arrayOver (.object C)).before args s = true) : ∃ cA : ClassId, ArrOfT s cA (.object C) ∧ va_RA s cA (.object C) := by
  obtain ⟨comp, cA, k, h1, -, h2, h3, h4⟩ := Cond.arrayOver_spec h
  exact ⟨cA, fun n z => ⟨(fun k h => by cases h), k, h2, comp, h3⟩, k, comp, h2, h3, h1, h4⟩
theorem st_over {args : Array Value} {s : State} (hts : ∀ w ∈ lw_tbl, w.before args s = true) : ∀ t ∈ yb_over, (Cond.arrayOver t).before #[] s = true :=
  List.forall_mem_cons.mpr ⟨hts (.arrayOver (.array .int)) (yb_t1 _ (List.mem_of_getElem? (i := 146) rfl)), List.forall_mem_cons.mpr ⟨hts (.arrayOver (.array .long)) (yb_t6 _ (List.mem_of_getElem? (i := 136) rfl)), List.forall_mem_cons.mpr ⟨hts (.arrayOver (.array (.array .int))) (yb_t6 _ (List.mem_of_getElem? (i := 108) rfl)), List.forall_mem_cons.mpr ⟨hts (.arrayOver (.object "java/lang/String")) (yb_t6 _ (List.mem_of_getElem? (i := 110) rfl)), fun _ h => absurd h List.not_mem_nil⟩⟩⟩⟩
theorem st_arr {args : Array Value} {s : State} (hts : ∀ w ∈ lw_tbl, w.before args s = true) : ∃ ac : FieldType → ClassId, ∀ ty ∈ yb_tys, ArrOfT s (ac ty) ty ∧ va_RA s (ac ty) ty := by
  have h0 : ∀ ty ∈ yb_tys, ∃ cA : ClassId, ArrOfT s cA ty ∧ va_RA s cA ty :=
    List.forall_mem_cons.mpr ⟨st_prim (hts (.arrayClass .int) (yb_t1 _ (List.mem_of_getElem? (i := 91) rfl))) (Or.inl rfl), List.forall_mem_cons.mpr ⟨st_prim (hts (.arrayClass .long) (yb_t1 _ (List.mem_of_getElem? (i := 93) rfl))) (Or.inr rfl), List.forall_mem_cons.mpr ⟨st_prim (hts (.arrayClass .boolean) (yb_t1 _ (List.mem_of_getElem? (i := 92) rfl))) (Or.inl rfl), List.forall_mem_cons.mpr ⟨st_prim (hts (.arrayClass .byte) (yb_t4 _ (List.mem_of_getElem? (i := 168) rfl))) (Or.inl rfl), List.forall_mem_cons.mpr ⟨st_rows (hts (.arrayOver (.array .int)) (yb_t1 _ (List.mem_of_getElem? (i := 146) rfl))), List.forall_mem_cons.mpr ⟨st_rows (hts (.arrayOver (.array .long)) (yb_t6 _ (List.mem_of_getElem? (i := 136) rfl))), List.forall_mem_cons.mpr ⟨st_rows (hts (.arrayOver (.array (.array .int))) (yb_t6 _ (List.mem_of_getElem? (i := 108) rfl))), List.forall_mem_cons.mpr ⟨st_strs (hts (.arrayOver (.object "java/lang/String")) (yb_t6 _ (List.mem_of_getElem? (i := 110) rfl))), fun _ h => absurd h List.not_mem_nil⟩⟩⟩⟩⟩⟩⟩⟩
  have h1 : ∀ ty : FieldType, ∃ cA : ClassId, ty ∈ yb_tys → ArrOfT s cA ty ∧ va_RA s cA ty := by
    intro ty
    by_cases h : ty ∈ yb_tys
    · obtain ⟨cA, q⟩ := h0 ty h
      exact ⟨cA, fun _ => q⟩
    · exact ⟨0, fun q => absurd q h⟩
  obtain ⟨f, hf⟩ := Classical.axiomOfChoice h1
  exact ⟨f, hf⟩
theorem st_nest {args : Array Value} {s : State} (hts : ∀ w ∈ lw_tbl, w.before args s = true) : ∀ w ∈ yb_nest, va_Nw w s := (List.forall_mem_cons.mpr ⟨va_Nw.of rfl (hts _ (yb_t1 _ (List.mem_of_getElem? (i := 30) rfl))), (List.forall_mem_cons.mpr ⟨va_Nw.of rfl (hts _ (yb_t1 _ (List.mem_of_getElem? (i := 36) rfl))), (List.forall_mem_cons.mpr ⟨va_Nw.of rfl (hts _ (yb_t1 _ (List.mem_of_getElem? (i := 96) rfl))), (List.forall_mem_cons.mpr ⟨va_Nw.of rfl (hts _ (yb_t1 _ (List.mem_of_getElem? (i := 141) rfl))), (List.forall_mem_cons.mpr ⟨va_Nw.of rfl (hts _ (yb_t1 _ (List.mem_of_getElem? (i := 225) rfl))), (List.forall_mem_cons.mpr ⟨va_Nw.of rfl (hts _ (yb_t2 _ (List.mem_of_getElem? (i := 42) rfl))), (List.forall_mem_cons.mpr ⟨va_Nw.of rfl (hts _ (yb_t2 _ (List.mem_of_getElem? (i := 121) rfl))), (List.forall_mem_cons.mpr ⟨va_Nw.of rfl (hts _ (yb_t3 _ (List.mem_of_getElem? (i := 11) rfl))), (List.forall_mem_cons.mpr ⟨va_Nw.of rfl (hts _ (yb_t3 _ (List.mem_of_getElem? (i := 26) rfl))), (fun _ h => absurd h List.not_mem_nil)⟩)⟩)⟩)⟩)⟩)⟩)⟩)⟩)⟩)
def yb_tm (i : Nat) : Term := match yb_strs[i]? with
  | some q => .string q.1 q.2.1
  | none => .string "" 0
def yb_fl0 : List Cond := flatC (Jvm.Cond.and given_1 narrow_1)
def yb_off (i : Nat) : Nat := [13, 161, 170, 179, 188, 195, 203, 211, 220, 230, 238, 248, 257, 265, 275, 283, 290, 299, 309, 318, 327, 337, 344, 352, 359, 366, 373, 380].getD i 0
def yb_sec (i : Nat) : List Cond := (List.range (yb_len i)).map fun j => Cond.eq (.elem (.field (yb_tm i) "java/lang/String" "value" "[B") (.int (Int32.ofNat j))) (.int (yb_chr i j))
set_option maxRecDepth 100000 in
theorem st_a1 : ∀ i, i < 28 → Cond.exactly (yb_tm i) "java/lang/String" ∈ yb_fl0 := by decide +kernel
set_option maxRecDepth 100000 in
theorem st_a2 : ∀ i, i < 28 → Cond.eq (.field (yb_tm i) "java/lang/String" "coder" "B") (.int 0) ∈ yb_fl0 := by decide +kernel
set_option maxRecDepth 100000 in
theorem st_a3 : ∀ i, i < 28 → Cond.arrayOf (.field (yb_tm i) "java/lang/String" "value" "[B") .byte ∈ yb_fl0 := by decide +kernel
set_option maxRecDepth 100000 in
theorem st_a4 : ∀ i, i < 28 → Cond.eq (.length (.field (yb_tm i) "java/lang/String" "value" "[B")) (.int (Int32.ofNat (yb_len i))) ∈ yb_fl0 := by decide +kernel
set_option maxRecDepth 100000 in
theorem st_b5 : ∀ i, i < 28 → (yb_fl0.drop (yb_off i)).take (yb_len i) = yb_sec i := by decide +kernel
theorem st_a5 : ∀ i, i < 28 → ∀ j, j < yb_len i → Cond.eq (.elem (.field (yb_tm i) "java/lang/String" "value" "[B") (.int (Int32.ofNat j))) (.int (yb_chr i j)) ∈ yb_fl0 := by
  intro i hi j hj
  have h : Cond.eq (.elem (.field (yb_tm i) "java/lang/String" "value" "[B") (.int (Int32.ofNat j))) (.int (yb_chr i j)) ∈ yb_sec i := List.mem_map.mpr ⟨j, List.mem_range.mpr hj, rfl⟩
  rw [← st_b5 i hi] at h
  exact List.mem_of_mem_drop (List.mem_of_mem_take h)
theorem st_a6 : Cond.eq (.static "java/lang/String" "COMPACT_STRINGS" "Z") (.int 1) ∈ yb_fl0 := by decide +kernel
theorem st_a7 : Cond.isRef (.static "jdk/internal/util/Preconditions" "SIOOBE_FORMATTER" "Ljava/util/function/BiFunction;") ∈ yb_fl0 := by decide +kernel
theorem st_text {args : Array Value} {s : State} (hv : (Jvm.Cond.and given_1 narrow_1).before args s = true) {A : Nat → Prop} (hA : ∀ a : Nat, a < s.heap.size → ¬ A a) : ∃ sa sv : Nat → Nat, ∀ i, i < 28 → (yb_tm i).eval args s none [] s = some (.ref (sa i)) ∧ va_O "java/lang/String" (sa i) A s s.heap ∧ va_OF "java/lang/String" "coder" "B" (.int 0) (sa i) A s s.heap ∧ va_OF "java/lang/String" "value" "[B" (.ref (sv i)) (sa i) A s s.heap ∧ va_T .byte (sv i) (yb_len i) (fun j => .int (yb_chr i j)) A s s.heap := by
  have hs := flat_of_before _ hv
  have h0 : ∀ i : Nat, ∃ q : Nat × Nat, i < 28 → (yb_tm i).eval args s none [] s = some (.ref q.1) ∧ va_O "java/lang/String" q.1 A s s.heap ∧ va_OF "java/lang/String" "coder" "B" (.int 0) q.1 A s s.heap ∧ va_OF "java/lang/String" "value" "[B" (.ref q.2) q.1 A s s.heap ∧ va_T .byte q.2 (yb_len i) (fun j => .int (yb_chr i j)) A s s.heap := by
    intro i
    by_cases hi : i < 28
    · obtain ⟨a, c, cA, kA, q1, q2, q3, q4, q5, q6, -⟩ := Cond.exactly_spec (args := args) (first := s) (o := none) (s := s) (idx := []) (t := yb_tm i) (cls := "java/lang/String") (hs _ (st_a1 i hi))
      obtain ⟨t, ht, hT⟩ := va_Tof (f := fun j => .int (yb_chr i j)) (A := A) (N := yb_len i) (Nat.lt_trans (yb_len_small i hi) (by decide)) (hs _ (st_a3 i hi)) (va_eqt (hs _ (st_a4 i hi))) (fun j hj => va_eqt (hs _ (st_a5 i hi j hj))) hA
      exact ⟨(a, t), fun _ => ⟨q1, ⟨cA, q3, q5, by rw [q6]; exact q2, hA a (Array.getElem?_eq_some_iff.mp q3).1⟩, vk_OFof q1 (va_eqt (hs _ (st_a2 i hi))) hA, vk_OFof q1 ht hA, hT⟩⟩
    · exact ⟨(0, 0), fun h => absurd h hi⟩
  obtain ⟨ad, had⟩ := Classical.axiomOfChoice h0
  exact ⟨fun i => (ad i).1, fun i => (ad i).2, had⟩
theorem st_refs {args : Array Value} {s : State} (hts : ∀ w ∈ lw_tbl, w.before args s = true) {sa : Nat → Nat} (hev : ∀ i, i < 28 → (yb_tm i).eval args s none [] s = some (.ref (sa i))) : ∀ (i : Nat) (q : String × Nat × String), yb_strs[i]? = some q → vk_R q.1 q.2.1 q.2.2 (sa i) s := by
  intro i q hq
  match i, hq with
  | 0, hq => cases hq; exact vk_R.of (hts _ (yb_t4 _ (List.mem_of_getElem? (i := 56) rfl))) (hev 0 (by decide))
  | 1, hq => cases hq; exact vk_R.of (hts _ (yb_t6 _ (List.mem_of_getElem? (i := 111) rfl))) (hev 1 (by decide))
  | 2, hq => cases hq; exact vk_R.of (hts _ (yb_t6 _ (List.mem_of_getElem? (i := 112) rfl))) (hev 2 (by decide))
  | 3, hq => cases hq; exact vk_R.of (hts _ (yb_t6 _ (List.mem_of_getElem? (i := 113) rfl))) (hev 3 (by decide))
  | 4, hq => cases hq; exact vk_R.of (hts _ (yb_t6 _ (List.mem_of_getElem? (i := 114) rfl))) (hev 4 (by decide))
  | 5, hq => cases hq; exact vk_R.of (hts _ (yb_t6 _ (List.mem_of_getElem? (i := 115) rfl))) (hev 5 (by decide))
  | 6, hq => cases hq; exact vk_R.of (hts _ (yb_t6 _ (List.mem_of_getElem? (i := 116) rfl))) (hev 6 (by decide))
  | 7, hq => cases hq; exact vk_R.of (hts _ (yb_t6 _ (List.mem_of_getElem? (i := 117) rfl))) (hev 7 (by decide))
  | 8, hq => cases hq; exact vk_R.of (hts _ (yb_t6 _ (List.mem_of_getElem? (i := 118) rfl))) (hev 8 (by decide))
  | 9, hq => cases hq; exact vk_R.of (hts _ (yb_t6 _ (List.mem_of_getElem? (i := 119) rfl))) (hev 9 (by decide))
  | 10, hq => cases hq; exact vk_R.of (hts _ (yb_t6 _ (List.mem_of_getElem? (i := 120) rfl))) (hev 10 (by decide))
  | 11, hq => cases hq; exact vk_R.of (hts _ (yb_t6 _ (List.mem_of_getElem? (i := 121) rfl))) (hev 11 (by decide))
  | 12, hq => cases hq; exact vk_R.of (hts _ (yb_t6 _ (List.mem_of_getElem? (i := 122) rfl))) (hev 12 (by decide))
  | 13, hq => cases hq; exact vk_R.of (hts _ (yb_t6 _ (List.mem_of_getElem? (i := 123) rfl))) (hev 13 (by decide))
  | 14, hq => cases hq; exact vk_R.of (hts _ (yb_t6 _ (List.mem_of_getElem? (i := 124) rfl))) (hev 14 (by decide))
  | 15, hq => cases hq; exact vk_R.of (hts _ (yb_t6 _ (List.mem_of_getElem? (i := 125) rfl))) (hev 15 (by decide))
  | 16, hq => cases hq; exact vk_R.of (hts _ (yb_t6 _ (List.mem_of_getElem? (i := 126) rfl))) (hev 16 (by decide))
  | 17, hq => cases hq; exact vk_R.of (hts _ (yb_t6 _ (List.mem_of_getElem? (i := 127) rfl))) (hev 17 (by decide))
  | 18, hq => cases hq; exact vk_R.of (hts _ (yb_t6 _ (List.mem_of_getElem? (i := 128) rfl))) (hev 18 (by decide))
  | 19, hq => cases hq; exact vk_R.of (hts _ (yb_t6 _ (List.mem_of_getElem? (i := 129) rfl))) (hev 19 (by decide))
  | 20, hq => cases hq; exact vk_R.of (hts _ (yb_t6 _ (List.mem_of_getElem? (i := 130) rfl))) (hev 20 (by decide))
  | 21, hq => cases hq; exact vk_R.of (hts _ (yb_t6 _ (List.mem_of_getElem? (i := 131) rfl))) (hev 21 (by decide))
  | 22, hq => cases hq; exact vk_R.of (hts _ (yb_t6 _ (List.mem_of_getElem? (i := 132) rfl))) (hev 22 (by decide))
  | 23, hq => cases hq; exact vk_R.of (hts _ (yb_t6 _ (List.mem_of_getElem? (i := 133) rfl))) (hev 23 (by decide))
  | 24, hq => cases hq; exact vk_R.of (hts _ (yb_t6 _ (List.mem_of_getElem? (i := 134) rfl))) (hev 24 (by decide))
  | 25, hq => cases hq; exact vk_R.of (hts _ (yb_t8 _ (List.mem_of_getElem? (i := 144) rfl))) (hev 25 (by decide))
  | 26, hq => cases hq; exact vk_R.of (hts _ (yb_t8 _ (List.mem_of_getElem? (i := 145) rfl))) (hev 26 (by decide))
  | 27, hq => cases hq; exact vk_R.of (hts _ (yb_t8 _ (List.mem_of_getElem? (i := 146) rfl))) (hev 27 (by decide))
  | i + 28, hq => simp [yb_strs] at hq
/-- the run's globals, and what the tables say of its start -/
theorem st_K {s : State} {b L : Nat} {xs : Nat → Int32} (hts : ∀ w ∈ lw_tbl, w.before #[Value.ref b] s = true) (hX : va_X b L xs s s.heap) (hbl : b < s.heap.size) (hv : (Jvm.Cond.and given_1 narrow_1).before #[Value.ref b] s = true) : ∃ G : yb_G, yb_h0 G = s.heap.size ∧ yb_H0 G = s.heap ∧ yb_b G = b ∧ yb_n G = L ∧ yb_K G s := by
  obtain ⟨D, hD⟩ := st_cls hts
  obtain ⟨ac, hac⟩ := st_arr hts
  have hA : ∀ a : Nat, a < s.heap.size → ¬ (s.heap.size ≤ a) := fun a h => Nat.not_le.mpr h
  obtain ⟨sa, sv, hst⟩ := st_text hv (A := fun q => s.heap.size ≤ q) hA
  have hs := flat_of_before _ hv
  refine ⟨(D, ac, s.heap.size, sa, sv, s.heap, b, L, xs), rfl, rfl, rfl, rfl, hD, hac, st_nest hts, rfl, ⟨hX, hbl⟩, fun i hi => (hst i hi).2, st_refs hts (fun i hi => (hst i hi).1), ?_, ?_, st_over hts⟩
  · exact va_Zof (hts _ (yb_t4 _ (List.mem_of_getElem? (i := 66) rfl))) (hts _ (yb_t1 _ (List.mem_of_getElem? (i := 15) rfl))) (va_eqi (hs _ st_a6)) hA
  · exact va_Zqof (hts _ (yb_t4 _ (List.mem_of_getElem? (i := 82) rfl))) (hts _ (yb_t1 _ (List.mem_of_getElem? (i := 17) rfl))) (hs _ st_a7) hA
/-- the memory behind the constructors -/
def yb_s0 : yb_S := (ci_2, fun _ _ => 0)
def yb_ckN (id : Nat) : Nat := match yb_sh0 id with
  | some (.inl ci) => (match vwCl[ci]? with | some q => q.2.2 | none => 0)
  | some (.inr x) => if x.1.isReference then x.2 else 0
  | none => 0
set_option maxRecDepth 100000 in
theorem st_R : ∀ id, id < 603 → ∀ k, k < yb_ckN id → cr_183 id k = yb_R0 id k := by decide +kernel
theorem st_W {G : yb_G} {H : Heap} (hW : yb_W G (yb_cm ci_2 cr_183 603) H) : yb_W G (yb_mk yb_s0 []) H := by
  obtain ⟨w1, w2, w3, w4⟩ := hW
  refine ⟨w1, w2, w3, fun id sh hs => ?_⟩
  have hs0 : id < 603 ∧ yb_sh0 id = some sh := by
    have h : yb_shX [] id = some sh := hs
    unfold yb_shX at h
    by_cases h1 : id < 603
    · rw [if_pos h1] at h
      exact ⟨h1, h⟩
    · rw [if_neg h1] at h
      simp at h
  obtain ⟨g1, g2⟩ := w4 id sh (show yb_cs 603 id = some sh from (if_pos hs0.1).trans hs0.2)
  refine ⟨g1, ?_⟩
  have hv : ∀ (ty : FieldType) (k : Nat), (ty.isReference = true → k < yb_ckN id) → yb_v G (yb_cm ci_2 cr_183 603) ty id k = yb_v G (yb_mk yb_s0 []) ty id k := by
    intro ty k hk
    cases ty with
    | object n => exact congrArg (fun o : Option Nat => va_rf (o.map (yb_ad G))) (st_R id hs0.1 k (hk rfl))
    | array t => exact congrArg (fun o : Option Nat => va_rf (o.map (yb_ad G))) (st_R id hs0.1 k (hk rfl))
    | _ => rfl
  cases sh with
  | inl ci =>
    obtain ⟨q, h1, h2⟩ := g2
    refine ⟨q, h1, h2.to (fun k hk => hv _ k (fun _ => ?_))⟩
    unfold yb_ckN
    rw [hs0.2]
    dsimp only
    rw [h1]
    exact hk
  | inr x =>
    show H[yb_ad G id]? = some (arrV _ _ _)
    rw [show H[yb_ad G id]? = some (arrV (yb_ac G x.1) x.2 (fun k => yb_v G (yb_cm ci_2 cr_183 603) x.1 id k)) from g2]
    refine congrArg some (yb_arrV_ext fun k hk => hv _ k (fun hr => ?_))
    unfold yb_ckN
    rw [hs0.2]
    dsimp only
    rw [if_pos hr]
    exact hk
theorem st_conv {G : yb_G} {own : String} {cc : ByteArray} {nL : Nat} {ret : Option FieldType} {ini : Bool} {R : Room} {Q : Option Value → yb_M → Prop} {ce sl pc : Nat} {vs : List (Option Value)} {st : List Value} (h : Rn G own cc nL ret ini R Q ce sl pc vs st (yb_mk yb_s0 [])) : Rn G own cc nL ret ini R Q ce sl pc vs st (yb_cm ci_2 cr_183 603) :=
  fun p l e s m args below meth c K H locs ls hC hW hL hl hk => h p l e s m args below meth c K H locs ls hC (st_W hW) hL hl hk
theorem nwL_7 : yb_nw RL 7 11 6 := ⟨RX11, TX11, rfl, (yb_gw_in (yb_t1 _ (List.mem_of_getElem? (i := 20) rfl)) rfl), (yb_gw_in (yb_t1 _ (List.mem_of_getElem? (i := 21) rfl)) rfl), (yb_gw_in (yb_t1 _ (List.mem_of_getElem? (i := 1) rfl)) rfl), lay_11, tyX11_ok⟩
theorem nwL_7_f : ∀ j, j < 6 → yb_nf (vwTy 11 j) = true := by decide +kernel
theorem nwL_10 : yb_nw RL 10 12 86 := ⟨RX12, TX12, rfl, (yb_gw_in (yb_t6 _ (List.mem_of_getElem? (i := 100) rfl)) rfl), (yb_gw_in (yb_t6 _ (List.mem_of_getElem? (i := 101) rfl)) rfl), (yb_gw_in (yb_t1 _ (List.mem_of_getElem? (i := 13) rfl)) rfl), lay_12, tyX12_ok⟩
theorem nwL_10_f : ∀ j, j < 86 → yb_nf (vwTy 12 j) = true := by decide +kernel
set_option maxHeartbeats 8000000 in
set_option maxRecDepth 40000 in
theorem law_walk_open {Inv : yb_S → Prop} (E0 : ∀ (a1 a2 a3 : Int32) (s : yb_S), Inv s → ∃ (r : Int32) (s1 s2 : yb_S), f_X11_town a1 a2 a3 s = some (r, s1) ∧ f_X12_town a1 a2 a3 s1 = some (r, s2) ∧ Inv s2) (E1 : ∀ (a1 a2 : Int32) (s : yb_S), (a2 = 0 ∨ a2 = 1) → Inv s → ∃ (r : Int32) (s1 s2 : yb_S), f_X11_full a1 a2 s = some (r, s1) ∧ f_X12_full a1 a2 s1 = some (r, s2) ∧ Inv s2) (E2 : ∀ (a1 a2 a3 : Int32) (s : yb_S), Inv s → ∃ (r : Int32) (s1 s2 : yb_S), f_X11_home a1 a2 a3 s = some (r, s1) ∧ f_X12_home a1 a2 a3 s1 = some (r, s2) ∧ Inv s2) (E3 : ∀ (a1 : Int32) (s : yb_S), Inv s → ∃ (r : Int32) (s1 s2 : yb_S), f_X11_beds a1 s = some (r, s1) ∧ f_X12_beds a1 s1 = some (r, s2) ∧ Inv s2) (E4 : ∀ (a1 a2 : Int32) (s : yb_S), Inv s → ∃ (r : Int32) (s1 s2 : yb_S), f_X11_family a1 a2 s = some (r, s1) ∧ f_X12_family a1 a2 s1 = some (r, s2) ∧ Inv s2) (E5 : ∀ (a1 a2 : Int32) (s : yb_S), Inv s → ∃ (r : Int32) (s1 s2 : yb_S), f_X11_wish a1 a2 s = some (r, s1) ∧ f_X12_wish a1 a2 s1 = some (r, s2) ∧ Inv s2) (E6 : ∀ (a1 a2 a3 : Int32) (s : yb_S), Inv s → ∃ (r : Int32) (s1 s2 : yb_S), f_X11_apart a1 a2 a3 s = some (r, s1) ∧ f_X12_apart a1 a2 a3 s1 = some (r, s2) ∧ Inv s2) (E7 : ∀ (a1 a2 a3 a4 a5 : Int32) (s : yb_S), Inv s → ∃ (r : Int32) (s1 s2 : yb_S), f_X11_record a1 a2 a3 a4 a5 s = some (r, s1) ∧ f_X12_record a1 a2 a3 a4 a5 s1 = some (r, s2) ∧ Inv s2) (E8 : ∀ (a1 a2 : Int32) (s : yb_S), Inv s → ∃ (r : Int32) (s1 s2 : yb_S), (f_X11_alike a1 a2 s = some r ∧ s1 = s) ∧ (f_X12_alike a1 a2 s1 = some r ∧ s2 = s1) ∧ Inv s2) (E9 : ∀ (a1 : Int32) (s : yb_S), Inv s → ∃ (r : Int32) (s1 s2 : yb_S), (f_X11_match a1 s = some r ∧ s1 = s) ∧ (f_X12_match a1 s1 = some r ∧ s2 = s1) ∧ Inv s2) (E10 : ∀ (a1 : Int32) (s : yb_S), Inv s → ∃ (r : Int32) (s1 s2 : yb_S), (f_X11_rivals a1 s = some r ∧ s1 = s) ∧ (f_X12_rivals a1 s1 = some r ∧ s2 = s1) ∧ Inv s2) (E11 : ∀ (a1 a2 : Int32) (s : yb_S), Inv s → ∃ (r : Int32) (s1 s2 : yb_S), f_X11_join a1 a2 s = some (r, s1) ∧ f_X12_join a1 a2 s1 = some (r, s2) ∧ Inv s2) (E12 : ∀ (a1 : Int32) (s : yb_S), Inv s → ∃ (r : Int32) (s1 s2 : yb_S), f_X11_part a1 s = some (r, s1) ∧ f_X12_part a1 s1 = some (r, s2) ∧ Inv s2) (E13 : ∀ (a1 a2 : Int32) (s : yb_S), Inv s → ∃ (r : Int32) (s1 s2 : yb_S), (f_X11_same a1 a2 s = some r ∧ s1 = s) ∧ (f_X12_same a1 a2 s1 = some r ∧ s2 = s1) ∧ Inv s2) (E14 : ∀ (a1 a2 a3 : Int32) (s : yb_S), Inv s → ∃ (r : Int32) (s1 s2 : yb_S), f_X11_seek a1 a2 a3 s = some (r, s1) ∧ f_X12_seek a1 a2 a3 s1 = some (r, s2) ∧ Inv s2) (E15 : ∀ (a1 a2 : Int32) (s : yb_S), Inv s → ∃ (r : Int32) (s1 s2 : yb_S), (f_X11_finds a1 a2 s = some r ∧ s1 = s) ∧ f_X12_finds a1 a2 s1 = some (r, s2) ∧ Inv s2) (E16 : ∀ (a1 : Int32) (s : yb_S), Inv s → ∃ (r : Int32) (s1 s2 : yb_S), (f_X11_kin a1 s = some r ∧ s1 = s) ∧ f_X12_kin a1 s1 = some (r, s2) ∧ Inv s2) (E17 : ∀ (a1 : Int32) (s : yb_S), Inv s → ∃ (r : Int32) (s1 s2 : yb_S), (f_X11_mutual a1 s = some r ∧ s1 = s) ∧ f_X12_mutual a1 s1 = some (r, s2) ∧ Inv s2) (E18 : ∀ (a1 a2 a3 a4 a5 : Int32) (s : yb_S), Inv s → ∃ (r : Int32) (s1 s2 : yb_S), f_X11_feed a1 a2 a3 a4 a5 s = some (r, s1) ∧ f_X12_feed a1 a2 a3 a4 a5 s1 = some (r, s2) ∧ Inv s2) (E19 : ∀ (a1 : Int32) (s : yb_S), Inv s → ∃ (r : Int32) (s1 s2 : yb_S), f_X11_end a1 s = some (r, s1) ∧ f_X12_end a1 s1 = some (r, s2) ∧ Inv s2) (E20 : ∀ (s : yb_S), Inv s → ∃ (r : Int32) (s1 s2 : yb_S), f_X11_fault s = some (r, s1) ∧ f_X12_fault s1 = some (r, s2) ∧ Inv s2) (E21 : ∀ (s : yb_S), Inv s → ∃ (r : Int32) (s1 s2 : yb_S), f_X11_sheet s = some (r, s1) ∧ f_X12_sheet s1 = some (r, s2) ∧ Inv s2) (E22 : ∀ (a1 : Int32) (s : yb_S), Inv s → ∃ (r : Int32) (s1 s2 : yb_S), f_X11_strike a1 s = some (r, s1) ∧ f_X12_strike a1 s1 = some (r, s2) ∧ Inv s2) (E23 : ∀ (a1 a2 : Int32) (s : yb_S), Inv s → ∃ (r : Int32) (s1 s2 : yb_S), (f_X11_why a1 a2 s = some r ∧ s1 = s) ∧ (f_X12_why a1 a2 s1 = some r ∧ s2 = s1) ∧ Inv s2) (E24 : ∀ (a1 a2 : Int32) (s : yb_S), Inv s → ∃ (r : Int32) (s1 s2 : yb_S), f_X11_rank a1 a2 s = some (r, s1) ∧ f_X12_rank a1 a2 s1 = some (r, s2) ∧ Inv s2) (E25 : ∀ (a1 : Int32) (s : yb_S), Inv s → ∃ (r : Int32) (s1 s2 : yb_S), f_X11_lack a1 s = some (r, s1) ∧ f_X12_lack a1 s1 = some (r, s2) ∧ Inv s2) (E26 : ∀ (a1 a2 : Int32) (s : yb_S), Inv s → ∃ (r : Int32) (s1 s2 : yb_S), f_X11_bar a1 a2 s = some (r, s1) ∧ f_X12_bar a1 a2 s1 = some (r, s2) ∧ Inv s2) (E27 : ∀ (s : yb_S), Inv s → ∃ (r : Int32) (s1 s2 : yb_S), f_X11_place s = some (r, s1) ∧ f_X12_place s1 = some (r, s2) ∧ Inv s2) (E28 : ∀ (a1 a2 : Int32) (s : yb_S), Inv s → ∃ (r : Int32) (s1 s2 : yb_S), (f_X11_passed a1 a2 s = some r ∧ s1 = s) ∧ (f_X12_passed a1 a2 s1 = some r ∧ s2 = s1) ∧ Inv s2) (E29 : ∀ (a1 a2 : Int32) (s : yb_S), Inv s → ∃ (r : Int32) (s1 s2 : yb_S), f_X11_move a1 a2 s = some (r, s1) ∧ f_X12_move a1 a2 s1 = some (r, s2) ∧ Inv s2) (E30 : ∀ (a1 : Int32) (s : yb_S), Inv s → ∃ (r : Int32) (s1 s2 : yb_S), f_X11_leave a1 s = some (r, s1) ∧ f_X12_leave a1 s1 = some (r, s2) ∧ Inv s2) (E31 : ∀ (a1 : Int32) (s : yb_S), Inv s → ∃ (r : Int32) (s1 s2 : yb_S), f_X11_go a1 s = some (r, s1) ∧ f_X12_go a1 s1 = some (r, s2) ∧ Inv s2) (E32 : ∀ (a1 a2 : Int32) (s : yb_S), Inv s → ∃ (r : Int32) (s1 s2 : yb_S), (f_X11_night a1 a2 s = some r ∧ s1 = s) ∧ (f_X12_night a1 a2 s1 = some r ∧ s2 = s1) ∧ Inv s2) (E33 : ∀ (a1 a2 : Int32) (s : yb_S), Inv s → ∃ (r : Int32) (s1 s2 : yb_S), (f_X11_lead a1 a2 s = some r ∧ s1 = s) ∧ (f_X12_lead a1 a2 s1 = some r ∧ s2 = s1) ∧ Inv s2) (E34 : ∀ (s : yb_S), Inv s → ∃ (r : Int32) (s1 s2 : yb_S), f_X11_beyond s = some (r, s1) ∧ f_X12_beyond s1 = some (r, s2) ∧ Inv s2) (E35 : ∀ (a1 : Int32) (s : yb_S), Inv s → ∃ (r : Int32) (s1 s2 : yb_S), f_X11_ends a1 s = some (r, s1) ∧ f_X12_ends a1 s1 = some (r, s2) ∧ Inv s2) (E36 : ∀ (a1 a2 a3 : Int32) (s : yb_S), Inv s → ∃ (r : Int32) (s1 s2 : yb_S), f_X11_show a1 a2 a3 s = some (r, s1) ∧ f_X12_show a1 a2 a3 s1 = some (r, s2) ∧ Inv s2) (E37 : ∀ (a1 a2 a3 : Int32) (s : yb_S), Inv s → ∃ (r : Int32) (s1 s2 : yb_S), f_X11_best a1 a2 a3 s = some (r, s1) ∧ f_X12_best a1 a2 a3 s1 = some (r, s2) ∧ Inv s2) (E38 : ∀ (a1 a2 a3 : Int32) (s : yb_S), Inv s → ∃ (r : Int32) (s1 s2 : yb_S), f_X11_boat a1 a2 a3 s = some (r, s1) ∧ f_X12_boat a1 a2 a3 s1 = some (r, s2) ∧ Inv s2) (E39 : ∀ (a1 a2 : Int32) (s : yb_S), Inv s → ∃ (r : Int32) (s1 s2 : yb_S), f_X11_foretell a1 a2 s = some (r, s1) ∧ f_X12_foretell a1 a2 s1 = some (r, s2) ∧ Inv s2) (E40 : ∀ (a1 a2 : Int32) (s : yb_S), Inv s → ∃ (r : Int32) (s1 s2 : yb_S), (f_X11_worst a1 a2 s = some r ∧ s1 = s) ∧ (f_X12_worst a1 a2 s1 = some r ∧ s2 = s1) ∧ Inv s2) (E41 : ∀ (a1 : Int32) (nx : Nat) (s : yb_S), 603 ≤ nx → Inv s → ∃ (r : Int32) (s1 s2 : yb_S), f_X11_beside a1 s = some (r, s1) ∧ f_X12_beside a1 nx s1 = some (r, s2) ∧ Inv s2) (E42 : ∀ (a1 a2 a3 : Int32) (nx : Nat) (s : yb_S), 603 ≤ nx → Inv s → ∃ (r : Int32) (s1 s2 : yb_S), (f_X11_check a1 a2 a3 s = some r ∧ s1 = s) ∧ f_X12_check a1 a2 a3 nx s1 = some (r, s2) ∧ Inv s2) (E43 : ∀ (a1 a2 : Int32) (s : yb_S), Inv s → ∃ (r : Int32) (s1 s2 : yb_S), (f_X11_ended a1 a2 s = some r ∧ s1 = s) ∧ (f_X12_ended a1 a2 s1 = some r ∧ s2 = s1) ∧ Inv s2) (E44 : ∀ (a1 a2 : Int32) (s : yb_S), Inv s → ∃ (r : Int32) (s1 s2 : yb_S), (f_X11_told a1 a2 s = some r ∧ s1 = s) ∧ (f_X12_told a1 a2 s1 = some r ∧ s2 = s1) ∧ Inv s2) (E45 : ∀ (a1 a2 : Int32) (s : yb_S), Inv s → ∃ (r : Int32) (s1 s2 : yb_S), f_X11_is a1 a2 s = some (r, s1) ∧ f_X12_is a1 a2 s1 = some (r, s2) ∧ Inv s2) (E46 : ∀ (a1 : Int32) (s : yb_S), Inv s → ∃ (r : Int32) (s1 s2 : yb_S), (f_X11_count a1 s = some r ∧ s1 = s) ∧ (f_X12_count a1 s1 = some r ∧ s2 = s1) ∧ Inv s2) (hs0 : Inv yb_s0) {G : yb_G} (hN : yb_n G ≤ 3072) : Rn G RL cL_law 4 ret false room_1 lawQ 0 0 0 [some (.ref (yb_b G)), none, none, none] [] (yb_cm ci_0 cr_0 0) := by
  refine c_new (id := 0) nwL_7 rfl (by decide) (fun _ => rfl) (fun _ => rfl) nwL_7_f dL_law_0 ⟨Nat.le_of_ble_eq_true rfl, Nat.le_of_ble_eq_true rfl⟩ ?_
  refine n_dup dL_law_3 rfl ?_
  refine c_callI (As := []) ctr_X11_init ci_L_9 rfl rfl (Nat.le_of_ble_eq_true rfl) dL_law_4 ⟨Nat.le_of_ble_eq_true rfl, Nat.le_of_ble_eq_true rfl⟩ ⟨Nat.le_of_ble_eq_true rfl, Nat.le_of_ble_eq_true rfl⟩ ?_
  refine n_astore_n (i := 1) (vs' := [some (.ref (yb_b G)), some (.ref (yb_ad G 0)), none, none]) dL_law_7 rfl (Nat.le_of_ble_eq_true rfl) rfl rfl ?_
  refine c_new (id := 176) nwL_10 rfl (by decide) (fun _ => rfl) (fun _ => rfl) nwL_10_f dL_law_8 ⟨Nat.le_of_ble_eq_true rfl, Nat.le_of_ble_eq_true rfl⟩ ?_
  refine n_dup dL_law_11 rfl ?_
  refine c_callI (As := []) ctr_X12_init ci_L_12 rfl rfl (Nat.le_of_ble_eq_true rfl) dL_law_12 ⟨Nat.le_of_ble_eq_true rfl, Nat.le_of_ble_eq_true rfl⟩ ⟨Nat.le_of_ble_eq_true rfl, Nat.le_of_ble_eq_true rfl⟩ ?_
  refine n_astore_n (i := 2) (vs' := [some (.ref (yb_b G)), some (.ref (yb_ad G 0)), some (.ref (yb_ad G 176)), none]) dL_law_15 rfl (Nat.le_of_ble_eq_true rfl) rfl rfl ?_
  refine n_iconst (0 : Int32) dL_law_16 (by decide) ?_
  refine n_istore_n (i := 3) (vs' := [some (.ref (yb_b G)), some (.ref (yb_ad G 0)), some (.ref (yb_ad G 176)), some (.int (nI 0))]) dL_law_17 rfl (Nat.le_of_ble_eq_true rfl) rfl rfl ?_
  refine st_conv ?_
  exact law_loop_open E0 E1 E2 E3 E4 E5 E6 E7 E8 E9 E10 E11 E12 E13 E14 E15 E16 E17 E18 E19 E20 E21 E22 E23 E24 E25 E26 E27 E28 E29 E30 E31 E32 E33 E34 E35 E36 E37 E38 E39 E40 E41 E42 E43 E44 E45 E46 hN 3100 0 yb_s0 [] _ _ (by omega) (Nat.zero_le _) (Nat.zero_le _) (by decide) (by decide) hs0
set_option maxHeartbeats 8000000 in
theorem whole_start_open {Inv : yb_S → Prop} (E0 : ∀ (a1 a2 a3 : Int32) (s : yb_S), Inv s → ∃ (r : Int32) (s1 s2 : yb_S), f_X11_town a1 a2 a3 s = some (r, s1) ∧ f_X12_town a1 a2 a3 s1 = some (r, s2) ∧ Inv s2) (E1 : ∀ (a1 a2 : Int32) (s : yb_S), (a2 = 0 ∨ a2 = 1) → Inv s → ∃ (r : Int32) (s1 s2 : yb_S), f_X11_full a1 a2 s = some (r, s1) ∧ f_X12_full a1 a2 s1 = some (r, s2) ∧ Inv s2) (E2 : ∀ (a1 a2 a3 : Int32) (s : yb_S), Inv s → ∃ (r : Int32) (s1 s2 : yb_S), f_X11_home a1 a2 a3 s = some (r, s1) ∧ f_X12_home a1 a2 a3 s1 = some (r, s2) ∧ Inv s2) (E3 : ∀ (a1 : Int32) (s : yb_S), Inv s → ∃ (r : Int32) (s1 s2 : yb_S), f_X11_beds a1 s = some (r, s1) ∧ f_X12_beds a1 s1 = some (r, s2) ∧ Inv s2) (E4 : ∀ (a1 a2 : Int32) (s : yb_S), Inv s → ∃ (r : Int32) (s1 s2 : yb_S), f_X11_family a1 a2 s = some (r, s1) ∧ f_X12_family a1 a2 s1 = some (r, s2) ∧ Inv s2) (E5 : ∀ (a1 a2 : Int32) (s : yb_S), Inv s → ∃ (r : Int32) (s1 s2 : yb_S), f_X11_wish a1 a2 s = some (r, s1) ∧ f_X12_wish a1 a2 s1 = some (r, s2) ∧ Inv s2) (E6 : ∀ (a1 a2 a3 : Int32) (s : yb_S), Inv s → ∃ (r : Int32) (s1 s2 : yb_S), f_X11_apart a1 a2 a3 s = some (r, s1) ∧ f_X12_apart a1 a2 a3 s1 = some (r, s2) ∧ Inv s2) (E7 : ∀ (a1 a2 a3 a4 a5 : Int32) (s : yb_S), Inv s → ∃ (r : Int32) (s1 s2 : yb_S), f_X11_record a1 a2 a3 a4 a5 s = some (r, s1) ∧ f_X12_record a1 a2 a3 a4 a5 s1 = some (r, s2) ∧ Inv s2) (E8 : ∀ (a1 a2 : Int32) (s : yb_S), Inv s → ∃ (r : Int32) (s1 s2 : yb_S), (f_X11_alike a1 a2 s = some r ∧ s1 = s) ∧ (f_X12_alike a1 a2 s1 = some r ∧ s2 = s1) ∧ Inv s2) (E9 : ∀ (a1 : Int32) (s : yb_S), Inv s → ∃ (r : Int32) (s1 s2 : yb_S), (f_X11_match a1 s = some r ∧ s1 = s) ∧ (f_X12_match a1 s1 = some r ∧ s2 = s1) ∧ Inv s2) (E10 : ∀ (a1 : Int32) (s : yb_S), Inv s → ∃ (r : Int32) (s1 s2 : yb_S), (f_X11_rivals a1 s = some r ∧ s1 = s) ∧ (f_X12_rivals a1 s1 = some r ∧ s2 = s1) ∧ Inv s2) (E11 : ∀ (a1 a2 : Int32) (s : yb_S), Inv s → ∃ (r : Int32) (s1 s2 : yb_S), f_X11_join a1 a2 s = some (r, s1) ∧ f_X12_join a1 a2 s1 = some (r, s2) ∧ Inv s2) (E12 : ∀ (a1 : Int32) (s : yb_S), Inv s → ∃ (r : Int32) (s1 s2 : yb_S), f_X11_part a1 s = some (r, s1) ∧ f_X12_part a1 s1 = some (r, s2) ∧ Inv s2) (E13 : ∀ (a1 a2 : Int32) (s : yb_S), Inv s → ∃ (r : Int32) (s1 s2 : yb_S), (f_X11_same a1 a2 s = some r ∧ s1 = s) ∧ (f_X12_same a1 a2 s1 = some r ∧ s2 = s1) ∧ Inv s2) (E14 : ∀ (a1 a2 a3 : Int32) (s : yb_S), Inv s → ∃ (r : Int32) (s1 s2 : yb_S), f_X11_seek a1 a2 a3 s = some (r, s1) ∧ f_X12_seek a1 a2 a3 s1 = some (r, s2) ∧ Inv s2) (E15 : ∀ (a1 a2 : Int32) (s : yb_S), Inv s → ∃ (r : Int32) (s1 s2 : yb_S), (f_X11_finds a1 a2 s = some r ∧ s1 = s) ∧ f_X12_finds a1 a2 s1 = some (r, s2) ∧ Inv s2) (E16 : ∀ (a1 : Int32) (s : yb_S), Inv s → ∃ (r : Int32) (s1 s2 : yb_S), (f_X11_kin a1 s = some r ∧ s1 = s) ∧ f_X12_kin a1 s1 = some (r, s2) ∧ Inv s2) (E17 : ∀ (a1 : Int32) (s : yb_S), Inv s → ∃ (r : Int32) (s1 s2 : yb_S), (f_X11_mutual a1 s = some r ∧ s1 = s) ∧ f_X12_mutual a1 s1 = some (r, s2) ∧ Inv s2) (E18 : ∀ (a1 a2 a3 a4 a5 : Int32) (s : yb_S), Inv s → ∃ (r : Int32) (s1 s2 : yb_S), f_X11_feed a1 a2 a3 a4 a5 s = some (r, s1) ∧ f_X12_feed a1 a2 a3 a4 a5 s1 = some (r, s2) ∧ Inv s2) (E19 : ∀ (a1 : Int32) (s : yb_S), Inv s → ∃ (r : Int32) (s1 s2 : yb_S), f_X11_end a1 s = some (r, s1) ∧ f_X12_end a1 s1 = some (r, s2) ∧ Inv s2) (E20 : ∀ (s : yb_S), Inv s → ∃ (r : Int32) (s1 s2 : yb_S), f_X11_fault s = some (r, s1) ∧ f_X12_fault s1 = some (r, s2) ∧ Inv s2) (E21 : ∀ (s : yb_S), Inv s → ∃ (r : Int32) (s1 s2 : yb_S), f_X11_sheet s = some (r, s1) ∧ f_X12_sheet s1 = some (r, s2) ∧ Inv s2) (E22 : ∀ (a1 : Int32) (s : yb_S), Inv s → ∃ (r : Int32) (s1 s2 : yb_S), f_X11_strike a1 s = some (r, s1) ∧ f_X12_strike a1 s1 = some (r, s2) ∧ Inv s2) (E23 : ∀ (a1 a2 : Int32) (s : yb_S), Inv s → ∃ (r : Int32) (s1 s2 : yb_S), (f_X11_why a1 a2 s = some r ∧ s1 = s) ∧ (f_X12_why a1 a2 s1 = some r ∧ s2 = s1) ∧ Inv s2) (E24 : ∀ (a1 a2 : Int32) (s : yb_S), Inv s → ∃ (r : Int32) (s1 s2 : yb_S), f_X11_rank a1 a2 s = some (r, s1) ∧ f_X12_rank a1 a2 s1 = some (r, s2) ∧ Inv s2) (E25 : ∀ (a1 : Int32) (s : yb_S), Inv s → ∃ (r : Int32) (s1 s2 : yb_S), f_X11_lack a1 s = some (r, s1) ∧ f_X12_lack a1 s1 = some (r, s2) ∧ Inv s2) (E26 : ∀ (a1 a2 : Int32) (s : yb_S), Inv s → ∃ (r : Int32) (s1 s2 : yb_S), f_X11_bar a1 a2 s = some (r, s1) ∧ f_X12_bar a1 a2 s1 = some (r, s2) ∧ Inv s2) (E27 : ∀ (s : yb_S), Inv s → ∃ (r : Int32) (s1 s2 : yb_S), f_X11_place s = some (r, s1) ∧ f_X12_place s1 = some (r, s2) ∧ Inv s2) (E28 : ∀ (a1 a2 : Int32) (s : yb_S), Inv s → ∃ (r : Int32) (s1 s2 : yb_S), (f_X11_passed a1 a2 s = some r ∧ s1 = s) ∧ (f_X12_passed a1 a2 s1 = some r ∧ s2 = s1) ∧ Inv s2) (E29 : ∀ (a1 a2 : Int32) (s : yb_S), Inv s → ∃ (r : Int32) (s1 s2 : yb_S), f_X11_move a1 a2 s = some (r, s1) ∧ f_X12_move a1 a2 s1 = some (r, s2) ∧ Inv s2) (E30 : ∀ (a1 : Int32) (s : yb_S), Inv s → ∃ (r : Int32) (s1 s2 : yb_S), f_X11_leave a1 s = some (r, s1) ∧ f_X12_leave a1 s1 = some (r, s2) ∧ Inv s2) (E31 : ∀ (a1 : Int32) (s : yb_S), Inv s → ∃ (r : Int32) (s1 s2 : yb_S), f_X11_go a1 s = some (r, s1) ∧ f_X12_go a1 s1 = some (r, s2) ∧ Inv s2) (E32 : ∀ (a1 a2 : Int32) (s : yb_S), Inv s → ∃ (r : Int32) (s1 s2 : yb_S), (f_X11_night a1 a2 s = some r ∧ s1 = s) ∧ (f_X12_night a1 a2 s1 = some r ∧ s2 = s1) ∧ Inv s2) (E33 : ∀ (a1 a2 : Int32) (s : yb_S), Inv s → ∃ (r : Int32) (s1 s2 : yb_S), (f_X11_lead a1 a2 s = some r ∧ s1 = s) ∧ (f_X12_lead a1 a2 s1 = some r ∧ s2 = s1) ∧ Inv s2) (E34 : ∀ (s : yb_S), Inv s → ∃ (r : Int32) (s1 s2 : yb_S), f_X11_beyond s = some (r, s1) ∧ f_X12_beyond s1 = some (r, s2) ∧ Inv s2) (E35 : ∀ (a1 : Int32) (s : yb_S), Inv s → ∃ (r : Int32) (s1 s2 : yb_S), f_X11_ends a1 s = some (r, s1) ∧ f_X12_ends a1 s1 = some (r, s2) ∧ Inv s2) (E36 : ∀ (a1 a2 a3 : Int32) (s : yb_S), Inv s → ∃ (r : Int32) (s1 s2 : yb_S), f_X11_show a1 a2 a3 s = some (r, s1) ∧ f_X12_show a1 a2 a3 s1 = some (r, s2) ∧ Inv s2) (E37 : ∀ (a1 a2 a3 : Int32) (s : yb_S), Inv s → ∃ (r : Int32) (s1 s2 : yb_S), f_X11_best a1 a2 a3 s = some (r, s1) ∧ f_X12_best a1 a2 a3 s1 = some (r, s2) ∧ Inv s2) (E38 : ∀ (a1 a2 a3 : Int32) (s : yb_S), Inv s → ∃ (r : Int32) (s1 s2 : yb_S), f_X11_boat a1 a2 a3 s = some (r, s1) ∧ f_X12_boat a1 a2 a3 s1 = some (r, s2) ∧ Inv s2) (E39 : ∀ (a1 a2 : Int32) (s : yb_S), Inv s → ∃ (r : Int32) (s1 s2 : yb_S), f_X11_foretell a1 a2 s = some (r, s1) ∧ f_X12_foretell a1 a2 s1 = some (r, s2) ∧ Inv s2) (E40 : ∀ (a1 a2 : Int32) (s : yb_S), Inv s → ∃ (r : Int32) (s1 s2 : yb_S), (f_X11_worst a1 a2 s = some r ∧ s1 = s) ∧ (f_X12_worst a1 a2 s1 = some r ∧ s2 = s1) ∧ Inv s2) (E41 : ∀ (a1 : Int32) (nx : Nat) (s : yb_S), 603 ≤ nx → Inv s → ∃ (r : Int32) (s1 s2 : yb_S), f_X11_beside a1 s = some (r, s1) ∧ f_X12_beside a1 nx s1 = some (r, s2) ∧ Inv s2) (E42 : ∀ (a1 a2 a3 : Int32) (nx : Nat) (s : yb_S), 603 ≤ nx → Inv s → ∃ (r : Int32) (s1 s2 : yb_S), (f_X11_check a1 a2 a3 s = some r ∧ s1 = s) ∧ f_X12_check a1 a2 a3 nx s1 = some (r, s2) ∧ Inv s2) (E43 : ∀ (a1 a2 : Int32) (s : yb_S), Inv s → ∃ (r : Int32) (s1 s2 : yb_S), (f_X11_ended a1 a2 s = some r ∧ s1 = s) ∧ (f_X12_ended a1 a2 s1 = some r ∧ s2 = s1) ∧ Inv s2) (E44 : ∀ (a1 a2 : Int32) (s : yb_S), Inv s → ∃ (r : Int32) (s1 s2 : yb_S), (f_X11_told a1 a2 s = some r ∧ s1 = s) ∧ (f_X12_told a1 a2 s1 = some r ∧ s2 = s1) ∧ Inv s2) (E45 : ∀ (a1 a2 : Int32) (s : yb_S), Inv s → ∃ (r : Int32) (s1 s2 : yb_S), f_X11_is a1 a2 s = some (r, s1) ∧ f_X12_is a1 a2 s1 = some (r, s2) ∧ Inv s2) (E46 : ∀ (a1 : Int32) (s : yb_S), Inv s → ∃ (r : Int32) (s1 s2 : yb_S), (f_X11_count a1 s = some r ∧ s1 = s) ∧ (f_X12_count a1 s1 = some r ∧ s2 = s1) ∧ Inv s2) (hs0 : Inv yb_s0) {p : Program} {e : Env} {s : State} {m : MethodId} {below : List Frame} {meth : Method} {c : Code} (l : Launch) {b L : Nat} {xs : Nat → Int32} (hL : L ≤ 3072) (C0 : lw_At p s m meth c b L xs) : W p l e room_1 s m #[Value.ref b] below meth c s.heap [] 0 0 (lw_Z below #[Value.ref b] s) (entryFrame m ([Value.ref b] : List Value).toArray 4) := by
  obtain ⟨hx, hb, hr, hml, hown, hts, hX, hbl, hlocks, hgv⟩ := C0
  obtain ⟨G, g1, g2, rfl, rfl, hK⟩ := st_K hts hX hbl hgv
  have hl := lv_entry [.ref (yb_b G)] (n := 4) (Nat.le_of_ble_eq_true rfl)
  rw [lg_entry_eq]
  generalize (lg_sl [Value.ref (yb_b G)] ++ List.replicate (4 - (lg_sl [Value.ref (yb_b G)]).length) Slot.unset).toArray = ls at hl ⊢
  have hl : yb_L ls 4 [some (.ref (yb_b G)), none, none, none] := hl
  have hW : yb_W G (yb_cm ci_0 cr_0 0) s.heap := ⟨by rw [g1]; rfl, Nat.zero_le _, fun q _ => by rw [g2], fun id sh h => by
    have h : yb_cs 0 id = some sh := h
    unfold yb_cs at h
    rw [if_neg (Nat.not_lt_zero id)] at h
    cases h⟩
  refine law_walk_open E0 E1 E2 E3 E4 E5 E6 E7 E8 E9 E10 E11 E12 E13 E14 E15 E16 E17 E18 E19 E20 E21 E22 E23 E24 E25 E26 E27 E28 E29 E30 E31 E32 E33 E34 E35 E36 E37 E38 E39 E40 E41 E42 E43 E44 E45 E46 hs0 hL p l e s m _ below meth c _ s.heap [] ls ⟨hx, hb, hml, hown, yb_gw_sub hts, hr, (fun h => by cases h), hK⟩ hW (fun q hq => by cases hq) hl ?_
  intro v M' H' locs' ls' pc' ce' sl' hret hQ hW' hL' hc hs
  have hQ : v = some (.int 1) := hQ
  subst hQ
  refine va_forget (fun q hq => by rw [← g1]; exact hL' q hq) ?_
  refine W.widen (k := 600000) (n := 7302249) hc hs ?_
  exact lw_ret hx hb hr hlocks hret.1
