theorem ze_37 : ∀ (a1 a2 a3 : Int32) (s : yb_S), zInv s → ∃ (r : Int32) (s1 s2 : yb_S), f_X11_best a1 a2 a3 s = some (r, s1) ∧ f_X12_best a1 a2 a3 s1 = some (r, s2) ∧ zInv s2 := by
  sorry
