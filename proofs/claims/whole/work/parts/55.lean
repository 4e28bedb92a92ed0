/-! a day: what is told doesn't hang on what a day keeps -/
theorem zSheet_c {N M : yb_S} (h : ∀ id, id < 367 → N.1 id = M.1 id) {c : Nat} {d : Int32} : ∀ n, zSheet N c d n = zSheet M c d n
  | 0 => rfl
  | n + 1 => by
    rw [zSheet_s, zSheet_s, zSheet_c h n]
    unfold zCnt zHas
    simp (disch := omega) only [h]
theorem zForce_c {N M : yb_S} (h : ∀ id, id < 367 → N.1 id = M.1 id) {c : Nat} : zForce N c = zForce M c := by
  unfold zForce zHas nS
  simp (disch := omega) only [h, zSheet_c h]
theorem zTell_c {N M : yb_S} (h : ∀ id, id < 367 → N.1 id = M.1 id) {c : Nat} {nm : Nat → Int32} : zTell N c nm = zTell M c nm := by
  unfold zTell
  rw [zForce_c h]
  cases zForce M c with
  | none => rfl
  | some j =>
    show (zev (zCode N j c) nm (zLen N j c)).2 0 = (zev (zCode M j c) nm (zLen M j c)).2 0
    unfold zCode zLen
    have := Nat.mod_lt c (show 0 < 6 by decide)
    have := Nat.mod_lt j (show 0 < 10 by decide)
    rw [h _ (by omega), h _ (by omega)]
theorem zTown_c {N M : yb_S} (h : ∀ id, id < 367 → N.1 id = M.1 id) {f : Nat} : zTown N f = zTown M f := by
  unfold zTown
  simp (disch := omega) only [h]
theorem zN_c {N M : yb_S} (h : ∀ id, id < 367 → N.1 id = M.1 id) : nF N = nF M ∧ nH N = nH M ∧ nR N = nR M ∧ nK N = nK M ∧ nT N = nT M ∧ nD N = nD M := by
  unfold nF nH nR nK nT nD
  rw [h 176 (by decide)]
  exact ⟨rfl, rfl, rfl, rfl, rfl, rfl⟩
theorem zFinds_c {N M : yb_S} (h : ∀ id, id < 367 → N.1 id = M.1 id) {f o : Nat} : zFinds N f o = zFinds M f o := by
  obtain ⟨n1, n2, n3, n4, -⟩ := zN_c h
  unfold zFinds zHit zOf
  rw [n3, n4, h 214 (by decide), h 215 (by decide), h 216 (by decide), h 208 (by decide), h 209 (by decide), h 212 (by decide), h 213 (by decide)]
theorem zKinIn_c {N M : yb_S} (h : ∀ id, id < 367 → N.1 id = M.1 id) {f : Nat} {t : Int32} : zKinIn N f t = zKinIn M f t := by
  obtain ⟨n1, -⟩ := zN_c h
  unfold zKinIn zKin
  simp only [zFinds_c h, zTown_c h, n1]
theorem zPup_c {N M : yb_S} (h : ∀ id, id < 367 → N.1 id = M.1 id) {t b : Int32} : zPup N t b = zPup M t b := by
  obtain ⟨n1, -⟩ := zN_c h
  unfold zPup
  simp only [zTown_c h, n1]
  rw [h 190 (by decide)]
theorem zRooms_c {N M : yb_S} (h : ∀ id, id < 367 → N.1 id = M.1 id) {t : Int32} : zRooms N t = zRooms M t := by
  obtain ⟨n1, n2, -⟩ := zN_c h
  unfold zRooms
  rw [n2, h 183 (by decide), h 184 (by decide)]
theorem zThere_c {N M : yb_S} (h : ∀ id, id < 367 → N.1 id = M.1 id) : zThere N = zThere M := by
  obtain ⟨n1, n2, -⟩ := zN_c h
  unfold zThere
  rw [n1, h 189 (by decide), h 195 (by decide)]
theorem zNh_c {N M : yb_S} (h : ∀ id, id < 367 → N.1 id = M.1 id) {f a : Nat} : zNh N f a = zNh M f a := by
  have hH : zHt N a = zHt M a := by
    unfold zHt
    rw [h 183 (by decide)]
  have hNf : zNf N f 0 = zNf M f 0 := by
    unfold zNf zN0
    rw [h 197 (by decide), h 194 (by decide), h 193 (by decide), h 192 (by decide), h 191 (by decide), h 190 (by decide), h 189 (by decide), h 176 (by decide), zThere_c h]
  unfold zNh
  rw [hH, hNf, zRooms_c h, zPup_c h, zKinIn_c h]
  unfold zWant zMl
  rw [h 180 (by decide), h 193 (by decide), h 199 (by decide), h 177 (by decide), h 179 (by decide), h 184 (by decide), h 185 (by decide)]
/-- what f is told for the night in a, kept within a million -/
def zwi (x : Int32) : Int32 := if 0 ≤ x then (if x ≤ 1000000 then x else 1000000) else 0
theorem zwi_b (x : Int32) : ∃ n, n ≤ 1000000 ∧ zwi x = zi n := by
  unfold zwi
  by_cases h : 0 ≤ x
  · rw [if_pos h]
    by_cases h2 : x ≤ 1000000
    · rw [if_pos h2]
      exact ⟨x.toNatClampNeg, by
        have := Int32.le_iff_toInt_le.mp h2
        have : x.toInt ≤ 1000000 := this
        show x.toInt.toNat ≤ 1000000
        omega, zi_of h⟩
    · rw [if_neg h2]
      exact ⟨1000000, Nat.le_refl _, rfl⟩
  · rw [if_neg h]
    exact ⟨0, Nat.zero_le _, rfl⟩
theorem zm_within {x : Int32} {s : yb_S} : f_X12_within x s = some (zwi x) := by
  unfold f_X12_within zwi
  split
  · split <;> rfl
  · rfl
def zNg (M : yb_S) (f : Nat) : Int32 := zwi (zTell M 3 (zNh M f (M.1 196 f).toNatClampNeg))
