/-! fault -/
theorem zfp_A {M m s u : yb_S} (h : zfp s u) (q : zA M m s) : zA M m u := by
  have e1 : zO u = zO s := by
    apply Prod.ext
    · funext id k
      show (if zeO id k then u.1 id k else 0) = (if zeO id k then s.1 id k else 0)
      by_cases hk : zeO id k = true
      · have h1 : ¬ (93 ≤ id ∧ id < 100 ∧ id ≠ 96) := fun c => by
          rw [zeO_f (by omega)] at hk
          cases hk
        have h2 : ¬ (id = 92 ∧ k ≠ 0) := fun c => by
          obtain ⟨rfl, hk0⟩ := c
          have : (k == 0) = true := hk
          exact hk0 (eq_of_beq this)
        rw [if_pos hk, if_pos hk, h.1 id k h1 h2]
      · rw [if_neg hk, if_neg hk]
    · funext id k
      show (if id < 176 then u.2 id k else 0) = (if id < 176 then s.2 id k else 0)
      rw [h.2]
  have e2 : zHm u = zHm s := by
    apply Prod.ext
    · funext id
      funext k
      exact h.1 (id + 176) k (by omega) (by omega)
    · funext id
      show u.2 (id + 176) = s.2 (id + 176)
      rw [h.2]
  exact ⟨by rw [e1]; exact q.1, e2.trans q.2⟩
theorem zrz_Q {M o s u : yb_S} (h : zrz s u) (q : zQ M o s) : zQ M o u := by
  have e1 : zP u = zP s := by
    apply Prod.ext
    · funext id k
      show (if zeP id k then u.1 id k else 0) = (if zeP id k then s.1 id k else 0)
      by_cases hk : zeP id k = true
      · rw [if_pos hk, if_pos hk]
        refine h.1 id k (fun c => ?_) (fun c => ?_) (fun c => ?_)
        · obtain ⟨rfl, e | e | e | e | e | e⟩ := c <;> subst e <;> cases hk
        · rw [zeP_f (by omega)] at hk
          cases hk
        · rw [zeP_f (by omega)] at hk
          cases hk
      · rw [if_neg hk, if_neg hk]
    · funext id k
      show (if 176 ≤ id ∧ id < 603 then u.2 id k else 0) = (if 176 ≤ id ∧ id < 603 then s.2 id k else 0)
      rw [h.2]
  have e2 : zHo u = zHo s := by
    apply Prod.ext
    · funext id k
      show (if id < 176 then u.1 id k else 0) = (if id < 176 then s.1 id k else 0)
      by_cases hk : id < 176
      · rw [if_pos hk, if_pos hk]
        exact h.1 id k (by omega) (by omega) (by omega)
      · rw [if_neg hk, if_neg hk]
    · funext id k
      show (if id < 176 then u.2 id k else 0) = (if id < 176 then s.2 id k else 0)
      rw [h.2]
  refine ⟨e1.trans q.1, e2.trans q.2.1, zC_congr (fun id q1 q2 => funext fun k => h.1 id k (by omega) (by omega) (by omega)) ?_ ?_ ?_ ?_ q.2.2⟩
  · exact h.1 176 27 (by omega) (by omega) (by omega)
  · exact h.1 176 36 (by omega) (by omega) (by omega)
  · exact h.1 176 40 (by omega) (by omega) (by omega)
  · exact h.1 176 42 (by omega) (by omega) (by omega)
/-- the bytes of the text -/
def zTx (M : yb_S) (k : Nat) : Int32 := M.1 242 k &&& 255
def zFy (M : yb_S) : ztS := ztF (zKk (zTx M) (nX M)) (zVv (zTx M) (nX M))
def zFa (M : yb_S) : Int32 := cond (zFy M).1 (-1) (zi (zS (zTx M) (nX M) (zFy M).2.1))
theorem zo_read {M m s : yb_S} (hW : zW M) (hA : zA M m s) : zs_P (f_X9_parse s) (fun u => zA M m u ∧ zfp s u ∧ ∃ w, ztc (zS (zTx M) (nX M)) w u (zFy M)) := by
  refine zs_mono (zo_parse (T := zTx M) (n := nX M) (zw_X8 hW) (by rw [cq_X hA, zw_X hW]) fun k hk => cq_96 hA hk) fun u hu => ⟨zfp_A hu.1 hA, hu.1, hu.2⟩
theorem zm_txt {M o s : yb_S} (hW : zW M) (hQ : zQ M o s) : ztx (zTx M) (nX M) s := by
  refine ⟨zw_X8 hW, ?_, fun k hk => ?_⟩
  · rw [zqk hQ (by omega)]
    exact zw_X hW
  · rw [zq hQ (by omega)]
    exact ⟨hW.2.2.2.2.2.2.2.2.2.1 k hk, rfl⟩
theorem zm_read {M o s : yb_S} (hW : zW M) (hQ : zQ M o s) : zs_P (f_X12_reads s) (fun u => zQ M o u ∧ ztr (zTx M) (nX M) s u (zFy M)) :=
  zs_mono (zm_reads (zm_txt hW hQ)) fun _ hu => ⟨zrz_Q hu.1 hQ, hu⟩
theorem ze_20 : ∀ (s : yb_S), zInv s → ∃ (r : Int32) (s1 s2 : yb_S), f_X11_fault s = some (r, s1) ∧ f_X12_fault s1 = some (r, s2) ∧ zInv s2 := by
  intro s h
  have hW := h.1
  refine z_call h (zFa (zP s)) (zP s) (fun m t hA => ?_) (fun o t hQ => ?_) hW (z_b58 h)
  · unfold f_X11_fault
    refine zs_bind (zo_read hW hA) fun u hu => zs_ret ⟨?_, hu.1⟩
    obtain ⟨w, hw⟩ := hu.2.2
    exact hw.2.2.2.1
  · unfold f_X12_fault
    exact zs_bind (zm_read hW hQ) fun u hu => zs_ret ⟨hu.2.2.1, hu.1⟩
