/-! PURE PART, the pictures: what is essential of the two halves of the memory, what the calls rest on (zW), how the class holds it (zR) -/
def zeP (id k : Nat) : Bool :=
  if id < 176 then false
  else if id = 176 then (k == 6 || k == 7 || k == 8 || k == 15 || k == 27 || k == 36 || k == 40 || k == 44 || k == 54 || k == 58 || k == 64 || k == 84 || k == 85)
  else if id < 217 then true
  else if id < 242 then false
  else if id < 314 then true
  else if id < 321 then false
  else if id < 332 then true
  else if id = 332 then false
  else if id < 337 then true
  else if id < 341 then false
  else if id < 592 then true
  else if id < 598 then false
  else decide (id < 603)
def zeO (id k : Nat) : Bool :=
  if id < 90 then true
  else if id = 92 then k == 0
  else if id = 96 then true
  else if id = 100 then k == 5
  else if id < 103 then false
  else if id < 128 then true
  else if id < 137 then false
  else decide (id < 176)
/-- the reference's half, its scratch left out -/
def zP (s : yb_S) : yb_S := (fun id k => if zeP id k then s.1 id k else 0, fun id k => if 176 ≤ id ∧ id < 603 then s.2 id k else 0)
/-- the class's half, its scratch left out -/
def zO (s : yb_S) : yb_S := (fun id k => if zeO id k then s.1 id k else 0, fun id k => if id < 176 then s.2 id k else 0)
/-- the halves whole -/
def zHm (s : yb_S) : yb_S := (fun id => s.1 (id + 176), fun id => s.2 (id + 176))
def zHo (s : yb_S) : yb_S := (fun id k => if id < 176 then s.1 id k else 0, fun id k => if id < 176 then s.2 id k else 0)
theorem zP_of {s t : yb_S} (h : zHm s = zHm t) : zP s = zP t := by
  have h1 : ∀ id, 176 ≤ id → s.1 id = t.1 id := fun id hid => by
    have := congrFun (congrArg Prod.fst h) (id - 176)
    simpa [zHm, Nat.sub_add_cancel hid] using this
  have h2 : ∀ id, 176 ≤ id → s.2 id = t.2 id := fun id hid => by
    have := congrFun (congrArg Prod.snd h) (id - 176)
    simpa [zHm, Nat.sub_add_cancel hid] using this
  apply Prod.ext
  · funext id k
    show (if zeP id k then s.1 id k else 0) = (if zeP id k then t.1 id k else 0)
    by_cases hid : 176 ≤ id
    · rw [h1 id hid]
    · have : zeP id k = false := by unfold zeP; rw [if_pos (by omega)]
      rw [this]
      rfl
  · funext id k
    show (if 176 ≤ id ∧ id < 603 then s.2 id k else 0) = (if 176 ≤ id ∧ id < 603 then t.2 id k else 0)
    by_cases hid : 176 ≤ id
    · rw [h2 id hid]
    · rw [if_neg (fun q => hid q.1), if_neg (fun q => hid q.1)]
theorem zO_of {s t : yb_S} (h : zHo s = zHo t) : zO s = zO t := by
  have h1 : ∀ id k, id < 176 → s.1 id k = t.1 id k := fun id k hid => by
    have := congrFun (congrFun (congrArg Prod.fst h) id) k
    simpa [zHo, hid] using this
  have h2 : ∀ id k, id < 176 → s.2 id k = t.2 id k := fun id k hid => by
    have := congrFun (congrFun (congrArg Prod.snd h) id) k
    simpa [zHo, hid] using this
  apply Prod.ext
  · funext id k
    show (if zeO id k then s.1 id k else 0) = (if zeO id k then t.1 id k else 0)
    by_cases hid : id < 176
    · rw [h1 id k hid]
    · have : zeO id k = false := by
        unfold zeO
        rw [if_neg (by omega), if_neg (by omega), if_neg (by omega), if_neg (by omega), if_neg (by omega), if_neg (by omega), if_neg (by omega)]
        exact decide_eq_false hid
      rw [this]
      rfl
  · funext id k
    show (if id < 176 then s.2 id k else 0) = (if id < 176 then t.2 id k else 0)
    by_cases hid : id < 176
    · rw [h2 id k hid]
    · rw [if_neg hid, if_neg hid]
/-! writing: what it does to the halves -/
theorem zHm_pI {s : yb_S} {id k : Nat} {x : Int32} (h : id < 176) : zHm (yb_pI s id k x) = zHm s := by
  apply Prod.ext
  · funext a
    show (yb_u s.1 id k x) (a + 176) = s.1 (a + 176)
    funext b
    exact yb_u_ne (by omega)
  · rfl
theorem zHm_pL {s : yb_S} {id k : Nat} {x : Int64} (h : id < 176) : zHm (yb_pL s id k x) = zHm s := by
  apply Prod.ext
  · rfl
  · funext a
    show (yb_u s.2 id k x) (a + 176) = s.2 (a + 176)
    funext b
    exact yb_u_ne (by omega)
theorem zHo_pI {s : yb_S} {id k : Nat} {x : Int32} (h : 176 ≤ id) : zHo (yb_pI s id k x) = zHo s := by
  apply Prod.ext
  · funext a b
    show (if a < 176 then yb_u s.1 id k x a b else 0) = (if a < 176 then s.1 a b else 0)
    by_cases ha : a < 176
    · rw [if_pos ha, if_pos ha]
      exact yb_u_ne (by omega)
    · rw [if_neg ha, if_neg ha]
  · rfl
theorem zHo_pL {s : yb_S} {id k : Nat} {x : Int64} (h : 176 ≤ id) : zHo (yb_pL s id k x) = zHo s := by
  apply Prod.ext
  · rfl
  · funext a b
    show (if a < 176 then yb_u s.2 id k x a b else 0) = (if a < 176 then s.2 a b else 0)
    by_cases ha : a < 176
    · rw [if_pos ha, if_pos ha]
      exact yb_u_ne (by omega)
    · rw [if_neg ha, if_neg ha]
theorem zP_pI0 {s : yb_S} {id k : Nat} {x : Int32} (h : zeP id k = false) : zP (yb_pI s id k x) = zP s := by
  apply Prod.ext
  · funext a b
    show (if zeP a b then yb_u s.1 id k x a b else 0) = (if zeP a b then s.1 a b else 0)
    unfold yb_u
    by_cases h1 : a = id
    · by_cases h2 : b = k
      · rw [h1, h2, h]
        rfl
      · rw [if_pos h1, if_neg h2]
    · rw [if_neg h1]
  · rfl
theorem zP_pI1 {s : yb_S} {id k : Nat} {x : Int32} (h : zeP id k = true) : zP (yb_pI s id k x) = yb_pI (zP s) id k x := by
  apply Prod.ext
  · funext a b
    show (if zeP a b then yb_u s.1 id k x a b else 0) = yb_u (fun i j => if zeP i j then s.1 i j else 0) id k x a b
    unfold yb_u
    by_cases h1 : a = id
    · by_cases h2 : b = k
      · rw [h1, h2, h]
        simp
      · rw [if_pos h1, if_pos h1, if_neg h2, if_neg h2]
    · rw [if_neg h1, if_neg h1]
  · rfl
theorem zP_pL {s : yb_S} {id k : Nat} {x : Int64} (h : 176 ≤ id ∧ id < 603) : zP (yb_pL s id k x) = yb_pL (zP s) id k x := by
  apply Prod.ext
  · rfl
  · funext a b
    show (if 176 ≤ a ∧ a < 603 then yb_u s.2 id k x a b else 0) = yb_u (fun i j => if 176 ≤ i ∧ i < 603 then s.2 i j else 0) id k x a b
    unfold yb_u
    by_cases h1 : a = id
    · rw [h1, if_pos h]
      simp [h]
    · rw [if_neg h1, if_neg h1]
theorem zP_pL0 {s : yb_S} {id k : Nat} {x : Int64} (h : ¬ (176 ≤ id ∧ id < 603)) : zP (yb_pL s id k x) = zP s := by
  apply Prod.ext
  · rfl
  · funext a b
    show (if 176 ≤ a ∧ a < 603 then yb_u s.2 id k x a b else 0) = (if 176 ≤ a ∧ a < 603 then s.2 a b else 0)
    unfold yb_u
    by_cases h1 : a = id
    · rw [h1, if_neg h, if_neg h]
    · rw [if_neg h1]
theorem zO_pI0 {s : yb_S} {id k : Nat} {x : Int32} (h : zeO id k = false) : zO (yb_pI s id k x) = zO s := by
  apply Prod.ext
  · funext a b
    show (if zeO a b then yb_u s.1 id k x a b else 0) = (if zeO a b then s.1 a b else 0)
    unfold yb_u
    by_cases h1 : a = id
    · by_cases h2 : b = k
      · rw [h1, h2, h]
        rfl
      · rw [if_pos h1, if_neg h2]
    · rw [if_neg h1]
  · rfl
theorem zO_pI1 {s : yb_S} {id k : Nat} {x : Int32} (h : zeO id k = true) : zO (yb_pI s id k x) = yb_pI (zO s) id k x := by
  apply Prod.ext
  · funext a b
    show (if zeO a b then yb_u s.1 id k x a b else 0) = yb_u (fun i j => if zeO i j then s.1 i j else 0) id k x a b
    unfold yb_u
    by_cases h1 : a = id
    · by_cases h2 : b = k
      · rw [h1, h2, h]
        simp
      · rw [if_pos h1, if_pos h1, if_neg h2, if_neg h2]
    · rw [if_neg h1, if_neg h1]
  · rfl
theorem zO_pL {s : yb_S} {id k : Nat} {x : Int64} (h : id < 176) : zO (yb_pL s id k x) = yb_pL (zO s) id k x := by
  apply Prod.ext
  · rfl
  · funext a b
    show (if a < 176 then yb_u s.2 id k x a b else 0) = yb_u (fun i j => if i < 176 then s.2 i j else 0) id k x a b
    unfold yb_u
    by_cases h1 : a = id
    · rw [h1, if_pos h]
      simp [h]
    · rw [if_neg h1, if_neg h1]
theorem zP_rd {s : yb_S} {id k : Nat} (h : zeP id k = true) : (zP s).1 id k = s.1 id k := if_pos h
theorem zO_rd {s : yb_S} {id k : Nat} (h : zeO id k = true) : (zO s).1 id k = s.1 id k := if_pos h
/-! the numbers of things -/
def nT (M : yb_S) : Nat := (M.1 176 6).toNatClampNeg
def nH (M : yb_S) : Nat := (M.1 176 15).toNatClampNeg
def nF (M : yb_S) : Nat := (M.1 176 27).toNatClampNeg
def nR (M : yb_S) : Nat := (M.1 176 36).toNatClampNeg
def nK (M : yb_S) : Nat := (M.1 176 40).toNatClampNeg
def nX (M : yb_S) : Nat := (M.1 176 44).toNatClampNeg
def nS (M : yb_S) : Nat := (M.1 176 54).toNatClampNeg
def nD (M : yb_S) : Nat := (M.1 176 7).toNatClampNeg
def nB (M : yb_S) : Nat := (M.1 176 84).toNatClampNeg
def nG (M : yb_S) : Nat := (M.1 176 85).toNatClampNeg
/-! what is asked of them -/
def zTown (M : yb_S) (f : Nat) : Int32 := cond (M.1 195 f == 1) (M.1 183 (M.1 196 f).toNatClampNeg) (-1)
def zPup (M : yb_S) (t but : Int32) : Int32 := zsum (fun f => cond (zi f != but && zTown M f == t) (M.1 190 f) 0) (nF M)
def zHeads (M : yb_S) (t : Int32) : Int32 := zsum (fun f => cond (zTown M f == t) (M.1 189 f) 0) (nF M)
def zRooms (M : yb_S) (t : Int32) : Int32 := zsum (fun h => cond (M.1 183 h == t) (M.1 184 h) 0) (nH M)
def zThere (M : yb_S) : Int32 := zsum (fun f => cond (M.1 195 f == 2) 0 (M.1 189 f)) (nF M)
def zHall (M : yb_S) : Int32 := zsum (fun f => cond (M.1 195 f == 0) (M.1 189 f) 0) (nF M)
def zbits (p : Nat → Bool) : Nat → Int32
  | 0 => 0
  | n + 1 => zbits p n ||| (if p n then (1 : Int32) <<< (zi n &&& 31) else 0)
def zLodg (M : yb_S) (t : Nat) : Int32 := zbits (fun f => zTown M f == zi t) (nF M)
def zfind (p : Nat → Bool) : Nat → Option Nat
  | 0 => none
  | n + 1 => match zfind p n with
    | some k => some k
    | none => if p n then some n else none
def zix (o : Option Nat) : Int32 := match o with | some k => zi k | none => -1
def zLodger (M : yb_S) (h : Nat) : Int32 := zix (zfind (fun f => M.1 195 f == 1 && M.1 196 f == zi h) (nF M))
def zsame : Nat → Int32 → Int32 → Int32
  | 0, _, _ => 0
  | k + 1, a, b => (if yb_rem a 10 = yb_rem b 10 then 1 else 0) + zsame k (a / 10) (b / 10)
def zabs (x : Int32) : Int32 := if 0 ≤ x then x else -x
def zpts (n1 b1 n2 b2 : Int32) : Int32 := zsame 6 n1 n2 - zabs (b1 - b2)
def zOf (M : yb_S) (r f : Nat) : Bool := (List.range (nR M)).any fun x => M.1 212 x == zi f && M.1 213 x == M.1 213 r
def zge5 (x : Int32) : Bool := decide (5 ≤ x)
/-- one telling of a seeking that finds o for f: by record r and seeking k -/
def zHit (M : yb_S) (f o r k : Nat) : Bool := (M.1 214 k == zi f && zge5 (zpts (M.1 215 k) (M.1 216 k) (M.1 208 r) (M.1 209 r))) && zOf M r o
def zFinds (M : yb_S) (f o : Nat) : Bool := (List.range (nR M)).any fun r => (List.range (nK M)).any fun k => zHit M f o r k
def zKin (M : yb_S) (f o : Nat) : Bool := (f != o) && (zFinds M f o || zFinds M o f)
/-! codes -/
def zstep (op v : Int32) : Int32 := if op = 110 then 1000 + v else if op = 118 then v else if op = 33 then 22 else if op = 38 then 20 else if op = 124 then 21 else op
def zbin (op : Int32) : Prop := op = 42 ∨ op = 43 ∨ op = 45 ∨ op = 47 ∨ op = 60 ∨ op = 61 ∨ op = 62 ∨ op = 38 ∨ op = 124
def zcok (c : Nat → Int32) (len : Nat) : Prop := ∃ dep : Nat → Nat, dep 0 = 0 ∧ dep len = 1 ∧ (∀ k, k ≤ len → dep k ≤ 60) ∧ ∀ k, k < len → (c (2 * k) = 110 ∧ (∃ v, v < 100000 ∧ c (2 * k + 1) = zi v) ∧ dep (k + 1) = dep k + 1) ∨ (c (2 * k) = 118 ∧ (∃ v, v < 18 ∧ c (2 * k + 1) = zi v) ∧ dep (k + 1) = dep k + 1) ∨ (c (2 * k) = 33 ∧ 1 ≤ dep k ∧ dep (k + 1) = dep k) ∨ (zbin (c (2 * k)) ∧ 2 ≤ dep k ∧ dep (k + 1) + 1 = dep k)
/-! kept of a day: where f was -/
def zOn (w : Int32) : Int32 := if w = 100 then 0 else if w = 101 then 2 else 1
def zle (a b : Int32) : Bool := decide (a ≤ b)
def zDayH (M : yb_S) (d : Nat) (k : Int32) : Int32 := zsum (fun f => cond (zle (M.1 198 f) (zi d) && (k == 3 || zOn (M.1 (367 + f % 24) d) == k)) (M.1 189 f) 0) (nF M)
/-! what every state of the reference keeps -/
def zW1 (M : yb_S) : Prop := M.1 176 6 = zi (nT M) ∧ nT M ≤ 8 ∧ M.1 176 15 = zi (nH M) ∧ nH M ≤ 24 ∧ M.1 176 27 = zi (nF M) ∧ nF M ≤ 24 ∧ M.1 176 36 = zi (nR M) ∧ nR M ≤ 60 ∧ M.1 176 40 = zi (nK M) ∧ nK M ≤ 40
def zW2 (M : yb_S) : Prop := M.1 176 44 = zi (nX M) ∧ nX M ≤ 500 ∧ M.1 176 54 = zi (nS M) ∧ nS M ≤ 10 ∧ M.1 176 7 = zi (nD M) ∧ nD M ≤ 200 ∧ M.1 176 84 = zi (nB M) ∧ nB M ≤ 40 ∧ M.1 176 85 = zi (nG M) ∧ nG M ≤ 40 ∧ (∃ n, n ≤ 200 ∧ M.1 176 8 = zi n)
def zWt (M : yb_S) : Prop := ∀ t, t < nT M → ∃ m, m < 1000 ∧ M.1 177 t = zi m
def zWh (M : yb_S) : Prop := ∀ h, h < nH M → (∃ t, t < nT M ∧ M.1 183 h = zi t) ∧ (∃ q, q < 5 ∧ M.1 186 h = zi q)
def zWf (M : yb_S) : Prop := ∀ f, f < nF M → (∃ q, q < 10 ∧ M.1 189 f = zi q) ∧ (∃ c, c < 6 ∧ M.1 194 f = zi c) ∧ (M.1 195 f = 0 ∨ M.1 195 f = 1 ∨ M.1 195 f = 2) ∧ ((M.1 195 f = 1 ∧ ∃ h, h < nH M ∧ M.1 196 f = zi h) ∨ (M.1 195 f ≠ 1 ∧ M.1 196 f = -1)) ∧ (M.1 199 f = -1 ∨ ∃ t, t < nT M ∧ M.1 199 f = zi t) ∧ (∃ d, d ≤ nD M ∧ M.1 198 f = zi d)
def zWn (M : yb_S) : Prop := (∀ f, nF M ≤ f → M.1 197 f = 0) ∧ (∀ t, nT M ≤ t → M.1 182 t = 0 ∧ M.2 181 t = 0) ∧ (∀ t, M.1 182 t = 0 ∨ M.1 182 t = 1)
def zWu (M : yb_S) : Prop := ∀ f g, f < nF M → g < nF M → M.1 195 f = 1 → M.1 195 g = 1 → M.1 196 f = M.1 196 g → f = g
def zWa (M : yb_S) : Prop := ∀ c, c < 6 → M.1 (201 + c % 6) c = 0
def zWr (M : yb_S) : Prop := (∀ r, r < nR M → (∃ b, b ≤ 120 ∧ M.1 209 r = zi b) ∧ (M.1 212 r = -1 ∨ ∃ f, f < nF M ∧ M.1 212 r = zi f) ∧ (∃ q, q < nR M ∧ M.1 213 r = zi q)) ∧ ∀ k, k < nK M → (∃ f, f < nF M ∧ M.1 214 k = zi f) ∧ (∃ b, b ≤ 120 ∧ M.1 216 k = zi b)
def zWx (M : yb_S) : Prop := ∀ i, i < nX M → -128 ≤ M.1 242 i ∧ M.1 242 i ≤ 127
def zWs (M : yb_S) : Prop := (M.1 176 58 = -1 ∨ ∃ j, j < nS M ∧ M.1 176 58 = zi j) ∧ ∀ j, j < nS M → (M.1 334 j = -1 ∨ ∃ d, M.1 334 j = zi d) ∧ ∀ c, c < 6 → ∃ len, len ≤ 500 ∧ M.1 (322 + j % 10) c = zi len ∧ (0 < len → zcok (M.1 (245 + 7 * (j % 10) + c % 6)) len)
def zWb (M : yb_S) : Prop := ∀ d, d < nD M → (∀ k, k < 4 → M.2 (392 + d % 200) k = (zDayH M d (zi k)).toInt64) ∧ (∃ n : Nat, n ≤ 24000000 ∧ M.2 (392 + d % 200) 4 = (zi n).toInt64) ∧ ∀ f, f < nF M → M.1 198 f ≤ zi d → (∃ h, h < 24 ∧ M.1 (367 + f % 24) d = zi h) ∨ M.1 (367 + f % 24) d = 100 ∨ M.1 (367 + f % 24) d = 101
def zWp (M : yb_S) : Prop := M.1 176 64 = 0 ∨ M.1 176 64 = 1
def zWg (M : yb_S) : Prop := (∀ k, k < nB M → ∃ d, d ≤ 200 ∧ M.1 598 k = zi d) ∧ ∀ k, k < nG M → ∃ d, d ≤ 200 ∧ M.1 601 k = zi d
def zW (M : yb_S) : Prop := zW1 M ∧ zW2 M ∧ zWt M ∧ zWh M ∧ zWf M ∧ zWn M ∧ zWu M ∧ zWa M ∧ zWr M ∧ zWx M ∧ zWs M ∧ zWb M ∧ zWp M ∧ zWg M
/-! how the class holds the same -/
def zRt (o M : yb_S) : Prop := o.1 2 0 = M.1 176 6 ∧ (∀ t, t < nT M → o.1 3 t = M.1 177 t ∧ o.1 4 t = M.1 178 t ∧ o.1 5 t = M.1 179 t ∧ o.1 6 t = M.1 180 t) ∧ ∀ t, t < 8 → o.1 7 t = M.1 182 t ∧ o.2 12 t = M.2 181 t
def zRc (o M : yb_S) : Prop := (∀ t, t < 8 → o.1 8 t = zRooms M (zi t) ∧ o.1 9 t = zHeads M (zi t) ∧ o.1 10 t = zPup M (zi t) (-1) ∧ o.1 11 t = zLodg M t) ∧ (∀ h, h < nH M → o.1 20 h = zLodger M h) ∧ ∀ f, f < nF M → o.1 30 f = zTown M f
def zRh (o M : yb_S) : Prop := o.1 13 0 = M.1 176 15 ∧ ∀ h, h < nH M → o.1 14 h = M.1 183 h ∧ o.1 15 h = M.1 184 h ∧ o.1 16 h = M.1 185 h ∧ o.1 17 h = M.1 186 h ∧ o.1 18 h = M.1 187 h ∧ o.1 19 h = M.1 188 h
def zRf (o M : yb_S) : Prop := o.1 21 0 = M.1 176 27 ∧ ∀ f, f < nF M → o.1 22 f = M.1 189 f ∧ o.1 23 f = M.1 190 f ∧ o.1 24 f = M.1 191 f ∧ o.1 25 f = M.1 192 f ∧ o.1 26 f = M.1 193 f ∧ o.1 27 f = M.1 194 f ∧ o.1 28 f = M.1 195 f ∧ o.1 29 f = M.1 196 f ∧ o.1 31 f = M.1 197 f ∧ o.1 32 f = M.1 198 f ∧ o.1 33 f = M.1 199 f
def zRa (o M : yb_S) : Prop := ∀ c, c < 6 → ∀ d, d < 6 → o.1 (35 + c % 6) d = M.1 (201 + c % 6) d
def zRr (o M : yb_S) : Prop := o.1 41 0 = M.1 176 36 ∧ o.1 41 8 = M.1 176 40 ∧ (∀ r, r < nR M → o.1 42 r = M.1 207 r ∧ o.1 43 r = M.1 208 r ∧ o.1 44 r = M.1 209 r ∧ o.1 45 r = M.1 210 r ∧ o.1 46 r = M.1 211 r ∧ o.1 47 r = M.1 212 r ∧ o.1 48 r = M.1 213 r) ∧ ∀ k, k < nK M → o.1 49 k = M.1 214 k ∧ o.1 50 k = M.1 215 k ∧ o.1 51 k = M.1 216 k
def zRk (o M : yb_S) : Prop := ∀ f, f < 24 → o.1 52 f = zbits (fun q => (f != q) && zFinds M f q) (nF M) ∧ o.1 53 f = zbits (fun q => zKin M f q) (nF M)
def zRl (o M : yb_S) : Prop := o.1 54 0 = M.1 176 54 ∧ o.1 54 1 = M.1 176 58 ∧ ∀ j, j < nS M → o.1 55 j = M.1 333 j ∧ o.1 56 j = M.1 334 j ∧ ∀ c, c < 6 → ∀ len, len ≤ 500 → M.1 (322 + j % 10) c = zi len → (len = 0 → o.1 (69 + j % 10) c = -1) ∧ (0 < len → ∃ p, p + len ≤ 500 ∧ o.1 (69 + j % 10) c = zi p ∧ o.1 (80 + j % 10) c = zi (p + len) ∧ ∀ k, k < len → o.1 (58 + j % 10) (p + k) = zstep (M.1 (245 + 7 * (j % 10) + c % 6) (2 * k)) (M.1 (245 + 7 * (j % 10) + c % 6) (2 * k + 1)))
def zRn (o M : yb_S) : Prop := o.1 1 5 = M.1 176 7 ∧ o.1 1 6 = M.1 176 8 ∧ o.1 1 7 = zThere M
def zRx (o M : yb_S) : Prop := o.1 92 0 = M.1 176 44 ∧ ∀ i, i < nX M → o.1 96 i = M.1 242 i &&& 255
def zRp (o M : yb_S) : Prop := ∃ q, q ≤ nF M ∧ o.1 100 5 = zi q ∧ (M.1 176 64 = 0 → q = 0) ∧ ∀ f, f < 24 → ∀ g, g < 24 → (f < q → g < q → o.1 (104 + f % 24) g = M.1 (342 + f % 24) g) ∧ (M.1 176 64 = 1 → q ≤ f ∨ q ≤ g → M.1 (342 + f % 24) g = -1)
def zRb (o M : yb_S) : Prop := (∀ d, d < nD M → ∀ f, f < nF M → M.1 198 f ≤ zi d → o.1 (139 + f % 24) d = M.1 (367 + f % 24) d) ∧ (∀ d, d < nD M → (zsum (fun t => o.1 (164 + t % 8) d) 8).toInt64 = M.2 (392 + d % 200) 4) ∧ ∀ d, nD M ≤ d → ∀ t, t < 8 → nT M ≤ t → o.1 (164 + t % 8) d = 0
def zRg (o M : yb_S) : Prop := o.1 172 0 = M.1 176 84 ∧ o.1 172 1 = M.1 176 85 ∧ ∀ d, d < 201 → o.1 173 d = zsum (fun k => cond (M.1 598 k == zi d) (M.1 599 k) 0) (nB M) ∧ o.1 174 d = zsum (fun k => cond (M.1 598 k == zi d) (M.1 600 k) 0) (nB M) ∧ o.1 175 d = zsum (fun k => cond (M.1 601 k == zi d) (M.1 602 k) 0) (nG M)
def zR (o M : yb_S) : Prop := zRt o M ∧ zRc o M ∧ zRh o M ∧ zRf o M ∧ zRa o M ∧ zRr o M ∧ zRk o M ∧ zRl o M ∧ zRn o M ∧ zRx o M ∧ zRp o M ∧ zRb o M ∧ zRg o M
/-- the reference's table of who finds whom holds, where it says so -/
def zSure (M : yb_S) (f o : Nat) : Int32 → Prop := fun v => (v = -1 ∧ zFinds M f o = false) ∨ (5 ≤ v ∧ (∃ r, r < nR M ∧ ∃ k, k < nK M ∧ zHit M f o r k = true ∧ zpts (M.1 215 k) (M.1 216 k) (M.1 208 r) (M.1 209 r) = v) ∧ ∀ r, r < nR M → ∀ k, k < nK M → zHit M f o r k = true → zpts (M.1 215 k) (M.1 216 k) (M.1 208 r) (M.1 209 r) ≤ v)
def zC (s : yb_S) : Prop := s.1 176 42 = 0 ∨ ∀ f o, f < 24 → f < nF s → o < nF s → f ≠ o → zSure s f o (s.1 (218 + f % 24) o)
def zInv (s : yb_S) : Prop := zW (zP s) ∧ zR (zO s) (zP s) ∧ zC s ∧ s.1 176 58 = -1
