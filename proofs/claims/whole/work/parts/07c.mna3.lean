/-! new T[n][k][z]: the model's 'make' of three dimensions -/
def yb_o3 (c : ClassId) (N h0 w : Nat) : Nat → Cell
  | 0 => { cls := c, slots := Array.replicate N .null, vm := .none }
  | i + 1 => (yb_o3 c N h0 w i).setSlot i (.ref (h0 + 1 + w * i))
def yb_f3 (s : State) (c comp cc : ClassId) (N K Z : Nat) (dv : Value) : Nat → State
  | 0 => s.pushCell (yb_o3 c N s.heap.size (K + 1) 0)
  | i + 1 => (Jvm.Free.Multi.fill (yb_f3 s c comp cc N K Z dv i) comp cc K Z dv K).setCell s.heap.size ((yb_o3 c N s.heap.size (K + 1) i).setSlot i (.ref (s.heap.size + 1 + (K + 1) * i)))
theorem yb_o3_facts (c : ClassId) (N h0 w : Nat) : ∀ i, (yb_o3 c N h0 w i).cls = c ∧ (yb_o3 c N h0 w i).vm = .none ∧ (yb_o3 c N h0 w i).slots.size = N
  | 0 => ⟨rfl, rfl, by simp [yb_o3]⟩
  | i + 1 => by
    obtain ⟨a, b, d⟩ := yb_o3_facts c N h0 w i
    exact ⟨by simp [yb_o3, Cell.setSlot, a], by simp [yb_o3, Cell.setSlot, b], by simp [yb_o3, Cell.setSlot, d]⟩
theorem yb_o3_eq (c : ClassId) (N h0 w M : Nat) : yb_o3 c N h0 w M = arrV c N (fun j => if j < M then .ref (h0 + 1 + w * j) else .null) := by
  induction M with
  | zero =>
    show ({ cls := c, slots := Array.replicate N .null, vm := .none } : Cell) = _
    rw [arrV_new]
    exact congrArg (arrV c N) (funext fun j => (if_neg (Nat.not_lt_zero j)).symm)
  | succ i ih =>
    show (yb_o3 c N h0 w i).setSlot i (.ref (h0 + 1 + w * i)) = _
    rw [ih, arrV_store]
    refine congrArg (arrV c N) (funext fun j => ?_)
    by_cases e : j = i
    · subst e
      simp [updV]
    · by_cases h : j < i
      · simp [updV, e, h, Nat.lt_succ_of_lt h]
      · simp [updV, e, h, show ¬ j < i + 1 by omega]
theorem yb_f3_facts (s : State) (c comp cc : ClassId) (N K Z : Nat) (dv : Value) : ∀ i, (yb_f3 s c comp cc N K Z dv i).heap.size = s.heap.size + 1 + (K + 1) * i ∧ (yb_f3 s c comp cc N K Z dv i).heap[s.heap.size]? = some (yb_o3 c N s.heap.size (K + 1) i) ∧ (yb_f3 s c comp cc N K Z dv i).vm = s.vm ∧ (yb_f3 s c comp cc N K Z dv i).slotsUsed = s.slotsUsed + N + i * (K + K * Z) ∧ (∀ a, a < s.heap.size → (yb_f3 s c comp cc N K Z dv i).heap[a]? = s.heap[a]?) ∧
    ∀ j, j < i → (yb_f3 s c comp cc N K Z dv i).heap[s.heap.size + 1 + (K + 1) * j]? = some (Jvm.Free.Multi.outerC comp K (s.heap.size + 1 + (K + 1) * j) K) ∧ ∀ t, t < K → (yb_f3 s c comp cc N K Z dv i).heap[s.heap.size + 1 + (K + 1) * j + 1 + t]? = some (Jvm.Free.Multi.innerC cc Z dv)
  | 0 => ⟨by simp [yb_f3], by simp [yb_f3], rfl, by simp [yb_f3, yb_o3], fun a ha => State.heap_pushCell_of_lt _ _ ha, fun j hj => absurd hj (Nat.not_lt_zero j)⟩
  | i + 1 => by
    obtain ⟨a, b, d, u, o, r⟩ := yb_f3_facts s c comp cc N K Z dv i
    obtain ⟨f1, f2, f3, f4⟩ := Jvm.Free.Multi.fill_facts (yb_f3 s c comp cc N K Z dv i) comp cc K Z dv K
    have fo := fun (x : Nat) (hx : x < (yb_f3 s c comp cc N K Z dv i).heap.size) => Jvm.Free.Multi.fill_old (yb_f3 s c comp cc N K Z dv i) comp cc K Z dv hx K
    have fi := Jvm.Free.Multi.fill_inner (yb_f3 s c comp cc N K Z dv i) comp cc K Z dv K
    rw [a] at f1 f2 fi fo
    have hmul : (K + 1) * (i + 1) = (K + 1) * i + (K + 1) := Nat.mul_succ _ _
    have hb' : (Jvm.Free.Multi.fill (yb_f3 s c comp cc N K Z dv i) comp cc K Z dv K).heap[s.heap.size]? = some (yb_o3 c N s.heap.size (K + 1) i) := by rw [fo _ (by omega)]; exact b
    have hne : ∀ x, x ≠ s.heap.size → ((yb_f3 s c comp cc N K Z dv (i + 1))).heap[x]? = (Jvm.Free.Multi.fill (yb_f3 s c comp cc N K Z dv i) comp cc K Z dv K).heap[x]? := fun x hx => heapAt_setCell_ne _ (Ne.symm hx)
    refine ⟨?_, State.heap_setCell_self hb', ?_, ?_, fun x hx => ?_, fun j hj => ?_⟩
    · show ((Jvm.Free.Multi.fill _ _ _ _ _ _ _).setCell _ _).heap.size = _
      rw [size_setCell, f1, hmul]
      omega
    · simp [yb_f3, d, f3]
    · show ((Jvm.Free.Multi.fill _ _ _ _ _ _ _).setCell _ _).slotsUsed = _
      have : ∀ (U : State) (q : Addr) (x : Cell), (U.setCell q x).slotsUsed = U.slotsUsed := fun _ _ _ => by simp
      rw [this, f4, u, Nat.succ_mul]
      omega
    · rw [hne x (by omega), fo x (by omega)]
      exact o x hx
    · by_cases hji : j = i
      · subst hji
        refine ⟨by rw [hne _ (by omega)]; exact f2, fun t ht => by rw [hne _ (by omega)]; exact fi t ht⟩
      · have hj' : j < i := by omega
        have hmj : (K + 1) * j + (K + 1) ≤ (K + 1) * i := by
          have := Nat.mul_le_mul_left (K + 1) (show j + 1 ≤ i from hj')
          rw [Nat.mul_succ] at this
          exact this
        obtain ⟨r1, r2⟩ := r j hj'
        refine ⟨by rw [hne _ (by omega), fo _ (by omega)]; exact r1, fun t ht => by rw [hne _ (by omega), fo _ (by omega)]; exact r2 t ht⟩
theorem yb_f3_top (s : State) (f : JFrame) (c comp cc : ClassId) (N K Z : Nat) (dv : Value) : ∀ i, yb_f3 (s.setTop f) c comp cc N K Z dv i = (yb_f3 s c comp cc N K Z dv i).setTop f
  | 0 => rfl
  | i + 1 => by simp only [yb_f3, yb_f3_top s f c comp cc N K Z dv i, State.heap_setTop, Jvm.Free.Multi.fill_setTop, State.setCell_setTop]
theorem yb_make3 {E : CtlPost} {e : Env} {d : Bool} {acts : List Action} {s : State} {c comp cc cd : ClassId} {k kc kd : Class} {t0 t1 type : FieldType} {n m z : Int32} (hk : s.vm.classes[c]? = some k) (hkind : k.kind = .array comp t0) (href : t0.isReference = true)
    (hkc : s.vm.classes[comp]? = some kc) (hkindc : kc.kind = .array cc t1) (href1 : t1.isReference = true) (hkd : s.vm.classes[cc]? = some kd) (hkindd : kd.kind = .array cd type) (hn : ¬ n < 0) (hm : ¬ m < 0) (hz : ¬ z < 0)
    (hl1 : ¬ n.toNatClampNeg > e.platform.arrayLengthLimit) (hh1 : ¬ n.toNatClampNeg * componentBytes t0 > e.platform.maxHeapBytes)
    (hl2 : ¬ m.toNatClampNeg > e.platform.arrayLengthLimit) (hh2 : ¬ m.toNatClampNeg * componentBytes t1 > e.platform.maxHeapBytes)
    (hl3 : ¬ z.toNatClampNeg > e.platform.arrayLengthLimit) (hh3 : ¬ z.toNatClampNeg * componentBytes type > e.platform.maxHeapBytes)
    (hdf : fits type (defaultValue type) = true) (hdd : (defaultValue type).isDefault = true)
    (hc : s.heap.size + 1 + (m.toNatClampNeg + 1) * n.toNatClampNeg ≤ e.platform.maxCells) (hs : s.slotsUsed + n.toNatClampNeg + n.toNatClampNeg * (m.toNatClampNeg + m.toNatClampNeg * z.toNatClampNeg) ≤ e.platform.maxSlots)
    {Q : Addr → Pre} (hq : ∀ d' acts', Q s.heap.size d' acts' (yb_f3 s c comp cc n.toNatClampNeg m.toNatClampNeg z.toNatClampNeg (defaultValue type) n.toNatClampNeg)) :
    wp (multianewarray.make c [n, m, z]) Q E e d acts s := by
  have hfind : ([m, z].find? (· < 0)) = none := by simp [hm, hz]
  rw [multianewarray.make]
  simp only [wp_bind', Jvm.W.ite, hn, if_false, wp_pure', Jvm.W.theClass, hk, hkind, Option.some.injEq, exists_eq_left']
  refine Jvm.Free.Multi.wp_newArray hk hkind hl1 hh1 (Jvm.Free.Multi.refFits href _ (Or.inl rfl)) rfl (by have := Nat.zero_le ((m.toNatClampNeg + 1) * n.toNatClampNeg); omega) (by have := Nat.zero_le (n.toNatClampNeg * (m.toNatClampNeg + m.toNatClampNeg * z.toNatClampNeg)); omega) ?_
  simp only [hfind]
  rw [ite_self, wp_bind', Std.Legacy.Range.forIn_eq_forIn_range']
  have hsz : ([:n.toNatClampNeg] : Std.Legacy.Range).size = n.toNatClampNeg := by simp [Std.Legacy.Range.size]
  rw [hsz]
  show wp (forIn (List.range' 0 n.toNatClampNeg 1) PUnit.unit _) _ E e d acts _
  refine wp_forIn_inv (fun rest s' => ∃ i, i ≤ n.toNatClampNeg ∧ rest = List.range' i (n.toNatClampNeg - i) ∧ s' = yb_f3 s c comp cc n.toNatClampNeg m.toNatClampNeg z.toNatClampNeg (defaultValue type) i) _ _ ⟨0, Nat.zero_le _, rfl, rfl⟩ ?_ ?_
  · rintro x rest s' d' acts' Q' ⟨i, hi, hl, rfl⟩ hnext
    have hlt : i < n.toNatClampNeg := by
      rcases Nat.lt_or_ge i n.toNatClampNeg with h | h
      · exact h
      · rw [show n.toNatClampNeg - i = 0 from by omega] at hl; simp at hl
    obtain ⟨rfl, hrest⟩ : x = i ∧ rest = List.range' (i + 1) (n.toNatClampNeg - (i + 1)) := by
      rw [show n.toNatClampNeg - i = (n.toNatClampNeg - (i + 1)) + 1 from by omega, List.range'_succ] at hl
      exact ⟨(List.cons.inj hl).1, (List.cons.inj hl).2⟩
    obtain ⟨f1, f2, f3, f4, -, -⟩ := yb_f3_facts s c comp cc n.toNatClampNeg m.toNatClampNeg z.toNatClampNeg (defaultValue type) x
    obtain ⟨o1, o2, o3⟩ := yb_o3_facts c n.toNatClampNeg s.heap.size (m.toNatClampNeg + 1) x
    have hmul : x * (m.toNatClampNeg + m.toNatClampNeg * z.toNatClampNeg) + (m.toNatClampNeg + m.toNatClampNeg * z.toNatClampNeg) ≤ n.toNatClampNeg * (m.toNatClampNeg + m.toNatClampNeg * z.toNatClampNeg) := by
      have := Nat.mul_le_mul_right (m.toNatClampNeg + m.toNatClampNeg * z.toNatClampNeg) (show x + 1 ≤ n.toNatClampNeg from hlt)
      rw [Nat.succ_mul] at this; exact this
    have hmul2 : (m.toNatClampNeg + 1) * x + (m.toNatClampNeg + 1) ≤ (m.toNatClampNeg + 1) * n.toNatClampNeg := by
      have := Nat.mul_le_mul_left (m.toNatClampNeg + 1) (show x + 1 ≤ n.toNatClampNeg from hlt)
      rw [Nat.mul_succ] at this; exact this
    obtain ⟨g1, -, g3, -⟩ := Jvm.Free.Multi.fill_facts (yb_f3 s c comp cc n.toNatClampNeg m.toNatClampNeg z.toNatClampNeg (defaultValue type) x) comp cc m.toNatClampNeg z.toNatClampNeg (defaultValue type) m.toNatClampNeg
    simp only [wp_bind']
    refine Jvm.Free.Multi.wp_make2 (by rw [f3]; exact hkc) hkindc href1 (by rw [f3]; exact hkd) hkindd hm hz hl2 hh2 hl3 hh3 hdf hdd (by rw [f1]; omega) (by rw [f4]; omega) (fun d2 acts2 => ?_)
    have hlt0 : s.heap.size < (yb_f3 s c comp cc n.toNatClampNeg m.toNatClampNeg z.toNatClampNeg (defaultValue type) x).heap.size := by rw [f1]; omega
    simp only [wp_bind', Jvm.W.writeLoc, wp_pure']
    refine ⟨yb_o3 c n.toNatClampNeg s.heap.size (m.toNatClampNeg + 1) x, by rw [Jvm.Free.Multi.fill_old _ _ _ _ _ _ hlt0]; exact f2, by rw [o2]; simp, by rw [o3]; exact hlt, ?_, hnext _ _ _ ⟨x + 1, hlt, hrest, ?_⟩⟩
    · rw [o1, o2]
      simp [State.fitsSlot, State.slotType?, g3, f3, hk, hkind, Jvm.Free.Multi.refFits href _ (Or.inr ⟨_, rfl⟩)]
    · rw [f1]; rfl
  · rintro s' d' acts' ⟨i, hi, hl, rfl⟩
    have hiN : i = n.toNatClampNeg := by
      rcases Nat.lt_or_ge i n.toNatClampNeg with h | h
      · rw [show n.toNatClampNeg - i = (n.toNatClampNeg - (i + 1)) + 1 from by omega, List.range'_succ] at hl; cases hl
      · omega
    subst hiN
    simp only [wp_pure']
    exact hq _ _
theorem yb_filled3 {p : Program} {l : Launch} {e : Env} {R : Room} {s : State} {m : MethodId} {args : Array Value} {below : List Frame} {meth : Method} {c : Code} {T : State} {locs : List Loc} {cells slots : Nat} (X : Stand p l e R s m args below meth c T locs cells slots) (cA comp cc : ClassId) (N K Z : Nat) (dv : Value) :
    ∀ i, ∃ L : List Loc, (∀ q ∈ L, T.heap.size ≤ q.base) ∧ Stand p l e R s m args below meth c (yb_f3 T cA comp cc N K Z dv i) (locs ++ L) (cells + 1 + (K + 1) * i) (slots + N + i * (K + K * Z))
  | 0 => by
    have h := X.pushed (yb_o3 cA N T.heap.size (K + 1) 0)
    rw [(yb_o3_facts cA N T.heap.size (K + 1) 0).2.2] at h
    exact ⟨[], (fun q hq => by cases hq), by simpa [yb_f3] using h⟩
  | i + 1 => by
    obtain ⟨L, hL, Xi⟩ := yb_filled3 X cA comp cc N K Z dv i
    obtain ⟨f1, f2, f3, f4, -, -⟩ := yb_f3_facts T cA comp cc N K Z dv i
    have hlt0 : T.heap.size < (yb_f3 T cA comp cc N K Z dv i).heap.size := by rw [f1]; omega
    have Xf := Xi.filled comp cc K Z dv K
    have hcell : (Jvm.Free.Multi.fill (yb_f3 T cA comp cc N K Z dv i) comp cc K Z dv K).heap[T.heap.size]? = some (yb_o3 cA N T.heap.size (K + 1) i) := by rw [Jvm.Free.Multi.fill_old _ _ _ _ _ _ hlt0]; exact f2
    have h := Xf.stored hcell i (.ref (T.heap.size + 1 + (K + 1) * i))
    refine ⟨L ++ ((List.range K).map fun j => ⟨(yb_f3 T cA comp cc N K Z dv i).heap.size, j⟩) ++ [⟨T.heap.size, i⟩], fun q hq => ?_, ?_⟩
    · rcases List.mem_append.mp hq with hq | hq
      · rcases List.mem_append.mp hq with hq | hq
        · exact hL q hq
        · obtain ⟨j, -, rfl⟩ := List.mem_map.mp hq
          show T.heap.size ≤ (yb_f3 T cA comp cc N K Z dv i).heap.size
          rw [f1]
          omega
      · rw [List.mem_singleton.mp hq]
        exact Nat.le_refl _
    · have e1 : cells + 1 + (K + 1) * (i + 1) = cells + 1 + (K + 1) * i + 1 + K := by rw [Nat.mul_succ]; omega
      have e2 : slots + N + (i + 1) * (K + K * Z) = slots + N + i * (K + K * Z) + K + K * Z := by rw [Nat.succ_mul]; omega
      rw [e1, e2, ← List.append_assoc, ← List.append_assoc]
      exact h
theorem yb_mna3S {p : Program} {l : Launch} {e : Env} {R : Room} {s : State} {m : MethodId} {args : Array Value} {below : List Frame} {meth : Method} {c : Code} {T : State} {locs : List Loc} {cells slots : Nat} (X : Stand p l e R s m args below meth c T locs cells slots) (hexec : p.tables.exec = Jvm.exec) {own : String} {index : Nat} {ty : FieldType}
    (hown : s.vm.findClass own = some m.cls) (hclink : (Cond.classLink own index ("[" ++ (FieldType.array (.array ty)).toString)).before args s = true)
    {cA cB cC dC : ClassId} {kA kB kC : Class} (nA : s.vm.findClass ("[" ++ (FieldType.array (.array ty)).toString) = some cA) (hkA : s.vm.classes[cA]? = some kA) (hkindA : kA.kind = .array cB (.array (.array ty))) (hkB : s.vm.classes[cB]? = some kB) (hkindB : kB.kind = .array cC (.array ty)) (hkC : s.vm.classes[cC]? = some kC) (hkindC : kC.kind = .array dC ty)
    {g : JFrame} (hg : g.method = m) (hdg : decode c.code g.pc = .ok (.multianewarray index 3, 4)) {n k z : Int32} {rest : List Value} (hstack : g.stack = .int z :: .int k :: .int n :: rest)
    (hn : ¬ n < 0) (hk : ¬ k < 0) (hz : ¬ z < 0) (hb1 : n.toNatClampNeg * 4 ≤ 536870912) (hb2 : k.toNatClampNeg * 4 ≤ 536870912) (hb3 : z.toNatClampNeg * componentBytes ty ≤ 536870912) (hb4 : z.toNatClampNeg ≤ 536870912)
    (hdf : fits ty (defaultValue ty) = true) (hdd : (defaultValue ty).isDefault = true)
    (hcells : cells + (1 + (k.toNatClampNeg + 1) * n.toNatClampNeg) ≤ R.cells) (hslots : slots + (n.toNatClampNeg + n.toNatClampNeg * (k.toNatClampNeg + k.toNatClampNeg * z.toNatClampNeg)) ≤ R.slots) :
    ∃ (vm₁ : Vm) (L : List Loc), s.WarmedH vm₁ ∧ (∀ q ∈ L, T.heap.size ≤ q.base) ∧
      Stand p l e R s m args below meth c (yb_f3 (T.setVm vm₁) cA cB cC n.toNatClampNeg k.toNatClampNeg z.toNatClampNeg (defaultValue ty) n.toNatClampNeg) (locs ++ L) (cells + 1 + (k.toNatClampNeg + 1) * n.toNatClampNeg) (slots + n.toNatClampNeg + n.toNatClampNeg * (k.toNatClampNeg + k.toNatClampNeg * z.toNatClampNeg)) ∧
      ∀ target, Steps p.tables e below ((yb_f3 (T.setVm vm₁) cA cB cC n.toNatClampNeg k.toNatClampNeg z.toNatClampNeg (defaultValue ty) n.toNatClampNeg).setTop { g with pc := g.pc + 4, stack := .ref T.heap.size :: rest }) target →
        Steps p.tables e below (T.setTop g) target := by
  subst hg
  have hpl : e.platform.magicAccessors = ({} : Platform).magicAccessors := by rw [X.admits.platform]
  obtain ⟨c0, hfc0, hcl⟩ := Cond.classLink_spec hown hclink e.platform hpl
  cases nA.symm.trans hfc0
  obtain ⟨hg₁, hwarm₁, hready₁⟩ := State.classEntry (e := e) X.warmed hcl
  generalize T.vm.noted g.method.cls index (.cls cA) = vm₁ at hg₁ hwarm₁ hready₁
  have hal : s.vm.Alike vm₁ := hwarm₁.alike
  obtain ⟨kA₁, hkA₁, heA⟩ := hal.2.2 _ _ hkA
  obtain ⟨kB₁, hkB₁, heB⟩ := hal.2.2 _ _ hkB
  obtain ⟨kC₁, hkC₁, heC⟩ := hal.2.2 _ _ hkC
  have hkindA₁ : kA₁.kind = .array cB (.array (.array ty)) := by rw [heA]; exact hkindA
  have hkindB₁ : kB₁.kind = .array cC (.array ty) := by rw [heB]; exact hkindB
  have hkindC₁ : kC₁.kind = .array dC ty := by rw [heC]; exact hkindC
  have X₁ := X.noted hwarm₁
  obtain ⟨hr1, hr2⟩ := X.roomAbove hcells hslots
  obtain ⟨L, hL, XF⟩ := yb_filled3 X₁ cA cB cC n.toNatClampNeg k.toNatClampNeg z.toNatClampNeg (defaultValue ty) n.toNatClampNeg
  refine ⟨vm₁, L, hwarm₁, hL, XF, fun target hrest => ?_⟩
  have hlim := Launch.admits_arrayLengthLimit X.admits
  have hmax := Launch.admits_maxHeapBytes X.admits
  have hl1 : ¬ n.toNatClampNeg > e.platform.arrayLengthLimit := by rw [hlim]; omega
  have hh1 : ¬ n.toNatClampNeg * componentBytes (.array (.array ty)) > e.platform.maxHeapBytes := by
    rw [hmax]; show ¬ n.toNatClampNeg * 4 > 536870912; omega
  have hl2 : ¬ k.toNatClampNeg > e.platform.arrayLengthLimit := by rw [hlim]; omega
  have hh2 : ¬ k.toNatClampNeg * componentBytes (.array ty) > e.platform.maxHeapBytes := by
    rw [hmax]; show ¬ k.toNatClampNeg * 4 > 536870912; omega
  have hl3 : ¬ z.toNatClampNeg > e.platform.arrayLengthLimit := by rw [hlim]; omega
  have hh3 : ¬ z.toNatClampNeg * componentBytes ty > e.platform.maxHeapBytes := by rw [hmax]; omega
  jvm_step X.here [hexec, hdg]
  simp only [multianewarray.sem, wp_bind', Jvm.W.resolveClassAt_links (State.method?_setTop g X.here.top) hg₁]
  rw [Jvm.W.popN, if_neg (by decide)]
  refine ⟨g, State.topJava?_setTop' (s := T.setVm vm₁) g X.here.top, [.int n, .int k, .int z], rest, rfl, hstack, ?_⟩
  simp only [List.mapM_cons, List.mapM_nil, wp_bind', wp_pure']
  refine yb_make3 (k := kA₁) (kc := kB₁) (kd := kC₁) (comp := cB) (cc := cC) (cd := dC) (t0 := .array (.array ty)) (t1 := .array ty) (type := ty) hkA₁ hkindA₁ rfl hkB₁ hkindB₁ rfl hkC₁ hkindC₁ hn hk hz hl1 hh1 hl2 hh2 hl3 hh3 hdf hdd (by show T.heap.size + 1 + _ ≤ _; omega) (by show T.slotsUsed + _ + _ ≤ _; omega) (fun d' acts' => ?_)
  have eS : ((T.setTop g).setVm vm₁).setTop { g with stack := rest } = (T.setVm vm₁).setTop { g with stack := rest } := by
    show ((T.setVm vm₁).setTop g).setTop _ = _
    rw [State.setTop_setTop]
  rw [eS, yb_f3_top]
  simp only [wp_bind', Jvm.W.mark, Jvm.W.pushRef, State.topJava?_setTop' _ XF.here.top, Option.some.injEq, exists_eq_left', State.setTop_setTop, State.heap_setTop]
  intro acts
  simp [jvm, XF.here.top]
  exact hrest
