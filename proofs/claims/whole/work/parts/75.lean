/-! the reference reads -/
theorem zki_w {T : Nat → Int32} {n p j : Nat} (hp : p ≤ n) (hj : j < 27) (h : zwd T p (zen T n p) (zwj j) = true) : zki T n p = zkw (some j) ∧ zva T n p = zvw (some j) := by
  have hw := zwj_lt hj
  have hl := zwd_l hw.2 hw.1 h
  have hlt : p < n := by
    rcases Nat.lt_or_ge p n with q | q
    · exact q
    · have h1 := (zwd_t.mp h).1
      rw [zen_n q] at h1
      have hl0 : 0 < yb_len (zwj j) := (show ∀ w, w < 28 → 0 < w → 0 < yb_len w by decide) _ hw.2 hw.1
      omega
  unfold zki zva
  rw [if_pos hlt, if_pos hlt, hl, zwix_s hj h]
  exact ⟨rfl, rfl⟩
theorem zkw_j {j : Nat} : zkw (some j) = if 9 ≤ j then 2 else if j < 6 then 3 else if j = 6 then 4 else if j = 7 then 5 else 6 := rfl
theorem zki_b {T : Nat → Int32} {n p : Nat} (h : zki T n p = 2 ∨ zki T n p = 3 ∨ zki T n p = 4 ∨ zki T n p = 5 ∨ zki T n p = 6) : ∃ j, j < 27 ∧ zwd T p (zen T n p) (zwj j) = true ∧ zki T n p = zkw (some j) ∧ zva T n p = zvw (some j) := by
  unfold zki zva at *
  rcases Nat.lt_or_ge p n with hlt | hge
  · rw [if_pos hlt] at h ⊢
    rw [if_pos hlt]
    cases hl : zlt (T p)
    · rw [hl] at h
      cases hd : zdg (T p)
      · rw [hd] at h
        cases hs : zsn (T p)
        · rw [hs] at h
          exact absurd h (show ¬ ((7 : Int32) = 2 ∨ (7 : Int32) = 3 ∨ (7 : Int32) = 4 ∨ (7 : Int32) = 5 ∨ (7 : Int32) = 6) by decide)
        · rw [hs] at h
          have := zsn_ne hs
          simp only [cond_true, cond_false] at h
          rcases h with h | h | h | h | h
          · exact absurd h this.2.2.1
          · exact absurd h this.2.2.2.1
          · exact absurd h this.2.2.2.2.1
          · exact absurd h this.2.2.2.2.2.1
          · exact absurd h this.2.2.2.2.2.2.1
      · rw [hd] at h
        simp only [cond_true, cond_false] at h
        split at h
        · exact absurd h (by decide)
        · exact absurd h (by decide)
    · rw [hl] at h
      simp only [cond_true] at h ⊢
      cases ho : zwix T p (zen T n p) with
      | none =>
        rw [ho] at h
        exact absurd h (show ¬ ((7 : Int32) = 2 ∨ (7 : Int32) = 3 ∨ (7 : Int32) = 4 ∨ (7 : Int32) = 5 ∨ (7 : Int32) = 6) by decide)
      | some j =>
        refine ⟨j, zwix_lt ho, ?_, rfl, rfl⟩
        rw [zwix_iff (zwix_lt ho), ho]
        exact decide_eq_true rfl
  · rw [if_neg (by omega)] at h
    exact absurd h (by decide)
theorem zwd_a {T : Nat → Int32} {n p j : Nat} (hp : p ≤ n) (hj : j = 6 ∨ j = 7 ∨ j = 8) : zwd T p (zen T n p) (zwj j) = (zki T n p == zkw (some j)) := by
  cases h : zwd T p (zen T n p) (zwj j)
  · refine (beq_eq_false_iff_ne.mpr fun q => ?_).symm
    have h3 : zkw (some j) = 4 ∨ zkw (some j) = 5 ∨ zkw (some j) = 6 := by
      rcases hj with e | e | e <;> subst e <;> decide
    obtain ⟨j2, hj2, h2, e2, -⟩ := zki_b (T := T) (n := n) (p := p) (by rw [q]; exact Or.inr (Or.inr h3))
    have : j2 = j := by
      rw [q, zkw_j, zkw_j] at e2
      rcases hj with e | e | e <;> subst e
      all_goals
        repeat' split at e2
        all_goals first | omega | exact absurd e2 (by decide)
    rw [this] at h2
    rw [h] at h2
    cases h2
  · exact (beq_iff_eq.mpr (zki_w hp (by omega) h).1).symm
def zrb (T : Nat → Int32) (n c : Nat) (w : yb_S) : Prop := ztx T n w ∧ w.1 176 55 = zi c ∧ c < 6
def zrw (c : Nat) (w u : yb_S) : Prop := (∀ id k, ¬ (id = 176 ∧ (k = 45 ∨ k = 46 ∨ k = 47 ∨ k = 48 ∨ k = 49)) → id ≠ 315 + c → u.1 id k = w.1 id k) ∧ u.2 = w.2
def zrf (T : Nat → Int32) (n c : Nat) (w u : yb_S) (x : zpS) : Prop := zrw c w u ∧ u.1 176 45 = zi (zS T n x.2.1) ∧ u.1 176 46 = zi (zen T n (zS T n x.2.1)) ∧ u.1 176 47 = -1 ∧ u.1 176 48 = zi x.2.2.1 ∧ ∀ k, k < x.2.2.1 → u.1 (315 + c) (2 * k) = (x.2.2.2 k).1 ∧ u.1 (315 + c) (2 * k + 1) = (x.2.2.2 k).2
def zrx (T : Nat → Int32) (n c : Nat) (w u : yb_S) (i : Nat) : Prop := zrw c w u ∧ u.1 176 47 = zi (zS T n i)
def zrs (T : Nat → Int32) (n c : Nat) (w : yb_S) (y : zpS) (a : Int32 × yb_S) : Prop := (y.1 = true → a.1 = 1 ∧ zrf T n c w a.2 y) ∧ (y.1 = false → a.1 = 0 ∧ zrx T n c w a.2 y.2.1)
theorem zrs_t {T : Nat → Int32} {n c : Nat} {w u : yb_S} {y : zpS} (hy : y.1 = true) (h : zrf T n c w u y) : zrs T n c w y (1, u) := ⟨fun _ => ⟨rfl, h⟩, fun q => (by rw [hy] at q; cases q)⟩
theorem zrs_f {T : Nat → Int32} {n c : Nat} {w u : yb_S} {y : zpS} (hy : y.1 = false) (h : zrx T n c w u y.2.1) : zrs T n c w y (0, u) := ⟨fun q => (by rw [hy] at q; cases q), fun _ => ⟨rfl, h⟩⟩
section
variable {T : Nat → Int32} {n c m b : Nat} {w : yb_S}
theorem zrw_x {u : yb_S} (hb : zrb T n c w) (h : zrw c w u) : ztx T n u := by
  have h6 := hb.2.2
  refine ⟨hb.1.1, ?_, fun k hk => ?_⟩
  · rw [h.1 176 44 (by omega) (by omega)]
    exact hb.1.2.1
  · rw [h.1 242 k (by omega) (by omega)]
    exact hb.1.2.2 k hk
theorem zrw_55 {u : yb_S} (hb : zrb T n c w) (h : zrw c w u) : u.1 176 55 = zi c := by
  rw [h.1 176 55 (by omega) (by have := hb.2.2; omega)]
  exact hb.2.1
theorem zrw_k {u : yb_S} (h : zrw c w u) {k : Nat} {x : Int32} (hk : k = 45 ∨ k = 46 ∨ k = 47 ∨ k = 48 ∨ k = 49) : zrw c w (yb_pI u 176 k x) := by
  refine ⟨fun id j q1 q2 => ?_, h.2⟩
  rw [← h.1 id j q1 q2]
  by_cases e : id = 176
  · subst e
    rw [zu_id, if_neg (by omega)]
  · rw [zu_ne e]
theorem zrw_f {u v : yb_S} (h : zrw c w u) (f : zf45 u v) : zrw c w v := ⟨fun id k q1 q2 => by rw [f.1 id k (by omega)]; exact h.1 id k q1 q2, f.2.trans h.2⟩
theorem zr_sg {u : yb_S} {x : zpS} (hb : zrb T n c w) (h : zrf T n c w u x) (hx : x.1 = true) {s : Int32} (hs : zsn s = true) : f_X12_isSign s u = some (zb (zpis (zKk T n) s x)) := by
  rw [zm_isSign (zrw_x hb h.1) zS_n h.2.1 hs, zpis_e hx]
  rfl
theorem zr_wd {u : yb_S} {x : zpS} (hb : zrb T n c w) (h : zrf T n c w u x) (hx : x.1 = true) {j : Nat} (hj : j = 6 ∨ j = 7 ∨ j = 8) : f_X12_isWord_str (100000 + zwj j) u = some (zb (zpis (zKk T n) (zkw (some j)) x)) := by
  have hw := zwj_lt (j := j) (by omega)
  rw [zm_isWord (zrw_x hb h.1) zS_n h.2.1 h.2.2.1 hw.2 hw.1, zwd_a zS_n hj, zpis_e hx]
  rfl
theorem zr_go {u : yb_S} {x : zpS} (hb : zrb T n c w) (h : zrf T n c w u x) : zs_P (f_X12_goesOn u) (fun v => zrf T n c w v (zpnx x)) := by
  have h6 := hb.2.2
  refine zs_mono (zm_goesOn (zrw_x hb h.1) zS_n h.2.2.1) fun v hv => ⟨zrw_f h.1 hv.1, hv.2.1, hv.2.2, ?_, ?_, fun k hk => ?_⟩
  · rw [hv.1.1 176 47 (by omega)]
    exact h.2.2.2.1
  · rw [hv.1.1 176 48 (by omega)]
    exact h.2.2.2.2.1
  · rw [hv.1.1 _ _ (by omega), hv.1.1 _ _ (by omega)]
    exact h.2.2.2.2.2 k hk
theorem zr_fl {u : yb_S} {x : zpS} (h : zrf T n c w u x) : ∃ v, f_X12_fails u = some (0, v) ∧ zrx T n c w v x.2.1 := by
  unfold f_X12_fails
  rw [h.2.2.2.1, if_pos rfl, Option.bind_some]
  refine ⟨_, rfl, zrw_k h.1 (by omega), ?_⟩
  rw [zu_eq]
  exact h.2.1
theorem zr_flS {u : yb_S} {x : zpS} (h : zrf T n c w u x) : zs_P ((f_X12_fails u).bind fun q => some (q.1, q.2)) (fun a => zrs T n c w (zpfl x) a) := by
  obtain ⟨v, e, hv⟩ := zr_fl h
  rw [e, Option.bind_some]
  exact zs_ret (zrs_f rfl hv)
theorem zr_pass {u : yb_S} {x : zpS} (hb : zrb T n c w) (h : zrf T n c w u x) (hx : x.1 = true) (t : Bool) : zs_P (f_X12_passes (zb t) u) (fun a => zrs T n c w (cond t (zpnx x) (zpfl x)) a) := by
  unfold f_X12_passes
  cases t
  · rw [if_pos (show zb false = 0 from rfl)]
    exact zr_flS h
  · rw [if_neg (show ¬ zb true = 0 by decide)]
    exact zs_bind (zr_go hb h) fun v hv => zs_ret (zrs_t (y := zpnx x) hx hv)
theorem zr_put {u : yb_S} {x : zpS} (hb : zrb T n c w) (h : zrf T n c w u x) (hx : x.1 = true) {op v : Int32} (hn : x.2.2.1 < 520) : ∃ u', f_X12_puts op v u = some (1, u') ∧ zrf T n c w u' (zpt op v x) := by
  have h6 := hb.2.2
  have e55 := zrw_55 hb h.1
  have e48 := h.2.2.2.2.1
  have ez : zpt op v x = (true, x.2.1, x.2.2.1 + 1, fun k => if k = x.2.2.1 then (op, v) else x.2.2.2 k) := by
    unfold zpt
    rw [hx]
    rfl
  unfold f_X12_puts
  rw [show (10 : Int32) = zi 10 from rfl, zi_ri (by omega) (by omega), Option.bind_some, e55, zi_ri h6 (by omega), Option.bind_some, show 244 + 7 * 10 + 1 + 1 * c = 315 + c by omega, e48, zi_mul2, zi_wr (by omega) (by omega), Option.bind_some, Option.bind_some]
  have e55' : (yb_pI u (315 + c) (2 * x.2.2.1) op).1 176 55 = zi c := by rw [zu_ne (by omega)]; exact e55
  have e48' : (yb_pI u (315 + c) (2 * x.2.2.1) op).1 176 48 = zi x.2.2.1 := by rw [zu_ne (by omega)]; exact e48
  rw [e55', zi_ri h6 (by omega), Option.bind_some, show 244 + 7 * 10 + 1 + 1 * c = 315 + c by omega, e48', zi_mul2, zi_succ, zi_wr (by omega) (by omega), Option.bind_some, Option.bind_some]
  refine ⟨_, rfl, ?_⟩
  rw [ez]
  refine ⟨⟨fun id k q1 q2 => ?_, h.1.2⟩, ?_, ?_, ?_, ?_, fun k hk => ?_⟩
  · by_cases e : id = 176
    · subst e
      rw [zu_id, if_neg (by omega), zu_ne q2, zu_ne q2]
      exact h.1.1 176 k q1 q2
    · rw [zu_ne e, zu_ne q2, zu_ne q2]
      exact h.1.1 id k q1 q2
  · rw [zu_id, if_neg (by decide), zu_ne (by omega), zu_ne (by omega)]
    exact h.2.1
  · rw [zu_id, if_neg (by decide), zu_ne (by omega), zu_ne (by omega)]
    exact h.2.2.1
  · rw [zu_id, if_neg (by decide), zu_ne (by omega), zu_ne (by omega)]
    exact h.2.2.2.1
  · rw [zu_eq, zu_ne (by omega), zu_ne (by omega), e48, zi_succ]
  · dsimp only at hk ⊢
    by_cases e : k = x.2.2.1
    · subst e
      rw [if_pos rfl]
      refine ⟨?_, ?_⟩
      · rw [zu_ne (by omega), zu_col (by omega), zu_eq]
      · rw [zu_ne (by omega), zu_eq]
    · rw [if_neg e]
      refine ⟨?_, ?_⟩
      · rw [zu_ne (by omega), zu_col (by omega), zu_col (by omega)]
        exact (h.2.2.2.2.2 k (by omega)).1
      · rw [zu_ne (by omega), zu_col (by omega), zu_col (by omega)]
        exact (h.2.2.2.2.2 k (by omega)).2
def zPR (T : Nat → Int32) (n c m b : Nat) (w : yb_S) (p : zpS → zpS) (X : yb_S → Option (Int32 × yb_S)) (need : Nat) : Prop := ∀ u x D r, x.1 = true → zrf T n c w u x → zpG m b x D r → D + need ≤ 60 → zs_P (X u) (fun a => zrs T n c w (p x) a)
theorem zpG_n {x : zpS} {D r : Nat} (hm : m ≤ 500) (h : zpG m b x D r) (hx : x.1 = true) : x.2.2.1 < 520 := by
  have h1 := (h.2 hx).1
  have h2 := h.1
  omega
theorem zr_lp (hb : zrb T n c w) (hk : zpW (zKk T n) (zVv T n) m) {c1 c2 : Int32} {p : zpS → zpS} {need : Nat} {F : (yb_S → Option (Int32 × yb_S)) → yb_S → Option (Int32 × yb_S)} (hg : zPG m b p need) (hm : zPM p) (h1 : c1 ≠ 0) (h2 : c2 ≠ 0) (b1 : zbin (zpop c1)) (b2 : zbin (zpop c2))
    (hstep : ∀ (u : yb_S) (x : zpS) (D r : Nat) (rc : yb_S → Option (Int32 × yb_S)) (Q : Int32 × yb_S → Prop), x.1 = true → zrf T n c w u x → zpG m b x D r → D + need ≤ 60 → (zpis (zKk T n) c1 x || zpis (zKk T n) c2 x) = true → ((p (zpnx x)).1 = true → ∀ u', zrf T n c w u' (zpt (zpop (zKk T n x.2.1)) 0 (p (zpnx x))) → zs_P (rc u') Q) → ((p (zpnx x)).1 = false → ∀ u', zrx T n c w u' (p (zpnx x)).2.1 → Q (0, u')) → zs_P (F rc u) Q)
    (hstop : ∀ (u : yb_S) (x : zpS) (rc : yb_S → Option (Int32 × yb_S)), x.1 = true → zrf T n c w u x → (zpis (zKk T n) c1 x || zpis (zKk T n) c2 x) = false → F rc u = some (1, u))
    {u : yb_S} {x : zpS} {D r : Nat} (hx : x.1 = true) (hu : zrf T n c w u x) (hG : zpG m b x D r) (hD : 1 ≤ D) (hn : D + need ≤ 60) : zs_P (yb_it F yb_N u) (fun a => zrs T n c w (zplp (zKk T n) c1 c2 p 501 x) a) := by
  have hm5 := hk.1
  refine zs_up (fun k v => ∃ y : zpS, y.1 = true ∧ zrf T n c w v y ∧ zpG m b y D r ∧ k ≤ y.2.1 ∧ zplp (zKk T n) c1 c2 p (501 - k) y = zplp (zKk T n) c1 c2 p 501 x) 500 ?_ yb_N 0 _ (Nat.zero_le _) (by unfold yb_N; omega) (by exact ⟨x, hx, hu, hG, Nat.zero_le _, rfl⟩)
  rintro k v rc hkk ⟨y, i1, i2, i3, i4, i5⟩ hnx
  rw [show 501 - k = (500 - k) + 1 by omega] at i5
  have e : zplp (zKk T n) c1 c2 p ((500 - k) + 1) y = cond (zpis (zKk T n) c1 y || zpis (zKk T n) c2 y) (zplp (zKk T n) c1 c2 p (500 - k) (zpt (zpop (zKk T n y.2.1)) 0 (p (zpnx y)))) y := rfl
  rw [e] at i5
  cases hc : (zpis (zKk T n) c1 y || zpis (zKk T n) c2 y)
  · rw [hc] at i5
    rw [hstop v y rc i1 i2 hc, ← i5]
    exact zs_ret (zrs_t i1 i2)
  · rw [hc] at i5
    have g1 := zpG_nx2 hk i3 h1 h2 hc
    have hlt : k < 500 := by
      have : y.2.1 + 1 ≤ m := g1.1
      omega
    refine hstep v y D r rc _ i1 i2 i3 hn hc (fun hp u' hu' => hnx hlt _ ⟨_, by rw [zpt_1]; exact hp, hu', ?_, ?_, ?_⟩) (fun hp u' hu' => ?_)
    · refine zpG_t (hg (zpnx y) D (r + 1) g1 hn) (fun _ => ?_) (by omega)
      exact Or.inr (Or.inr (Or.inr ⟨(zbin_op b1 b2 hc).2.1, by omega, rfl⟩))
    · rw [zpt_m]
      have : y.2.1 + 1 ≤ (p (zpnx y)).2.1 := hm (zpnx y)
      omega
    · rw [show 501 - (k + 1) = 500 - k by omega]
      exact i5
    · have ef : zplp (zKk T n) c1 c2 p (500 - k) (zpt (zpop (zKk T n y.2.1)) 0 (p (zpnx y))) = p (zpnx y) := by
        rw [zpt_i hp, zplp_i hp]
      have i5 : zplp (zKk T n) c1 c2 p (500 - k) (zpt (zpop (zKk T n y.2.1)) 0 (p (zpnx y))) = zplp (zKk T n) c1 c2 p 501 x := i5
      rw [← i5, ef]
      exact zrs_f hp hu'
/-- what follows an item: a fault ends it -/
theorem zr_then {p : zpS → zpS} {x : zpS} {e : Option (Int32 × yb_S)} {f : Int32 × yb_S → Option (Int32 × yb_S)} {Q : Int32 × yb_S → Prop} (h : zs_P e (fun a => zrs T n c w (p x) a)) (h1 : (p x).1 = true → ∀ u, zrf T n c w u (p x) → zs_P (f (1, u)) Q) (h0 : (p x).1 = false → ∀ u, zrx T n c w u (p x).2.1 → zs_P (f (0, u)) Q) : zs_P (e.bind f) Q := by
  refine zs_bind h fun a ha => ?_
  obtain ⟨a1, a2⟩ := a
  cases hp : (p x).1
  · obtain ⟨q1, q2⟩ := ha.2 hp
    dsimp only at q1 q2
    rw [q1]
    exact h0 hp a2 q2
  · obtain ⟨q1, q2⟩ := ha.1 hp
    dsimp only at q1 q2
    rw [q1]
    exact h1 hp a2 q2
/-- the sign that comes next -/
theorem zr_op {u : yb_S} {x : zpS} (hb : zrb T n c w) (hu : zrf T n c w u x) (hs : zsn (zKk T n x.2.1) = true) : zS T n x.2.1 < n ∧ u.1 242 (zS T n x.2.1) = zKk T n x.2.1 := by
  have hS := zS_n (T := T) (n := n) (i := x.2.1)
  have hxu := zrw_x hb hu.1
  have hn5 := hxu.1
  have hSlt : zS T n x.2.1 < n := by
    rcases Nat.lt_or_ge (zS T n x.2.1) n with q | q
    · exact q
    · exfalso
      have : zKk T n x.2.1 = 0 := if_neg (by omega)
      rw [this] at hs
      exact absurd hs (by decide)
  refine ⟨hSlt, ?_⟩
  have this := zm_isSign (s := u) hxu hS hu.2.1 (c := zKk T n x.2.1) hs
  rw [show (zki T n (zS T n x.2.1) == zKk T n x.2.1) = true from beq_self_eq_true _] at this
  unfold f_X12_isSign at this
  rw [hxu.2.1, hu.2.1, if_neg (by rw [zi_le (by omega) (by omega)]; omega), zi_rd (by omega) (by omega), Option.bind_some] at this
  by_cases q : u.1 242 (zS T n x.2.1) = zKk T n x.2.1
  · exact q
  · rw [if_neg q] at this
    exact absurd (Option.some.inj this) (by decide)
theorem zr_prod (hb : zrb T n c w) (hk : zpW (zKk T n) (zVv T n) m) {F : zpS → zpS} {need : Nat} {X1 X2 X3 : Int32 → yb_S → Option (Int32 × yb_S)} {d : Int32} (hF : zPR T n c m b w F (X1 d) need) (hg : zPG m b F need) (hm : zPM F) : zPR T n c m b w (zppr (zKk T n) F) (f_X12_product X1 X2 X3 d) (need + 1) := by
  have hm5 := hk.1
  intro u x D r hx hu hG hn
  unfold f_X12_product l_X12_product_10 zppr
  refine zr_then (hF u x D r hx hu hG (by omega)) (fun hp v hv => ?_) (fun hp v hv => ?_)
  · rw [if_neg (show ¬ (1 : Int32) = 0 by decide)]
    refine zr_lp hb hk hg hm (by decide) (by decide) zbin_42.1 zbin_42.2.1 (fun u x D r rc Q hx hu hG hn hc K1 K0 => ?_) (fun u x rc hx hu hc => ?_) hp hv (hg x D r hG (by omega)) (by omega) (by omega)
    · show zs_P (f_X12_product_10 X1 X2 X3 (fun s => rc s) d u) Q
      have hk0 := (zbin_op zbin_42.1 zbin_42.2.1 hc).2.2
      have g1 := zpG_nx2 hk hG (by decide) (by decide) hc
      have hlt : x.2.1 + 1 ≤ m := g1.1
      have key : zs_P (j_X12_product_28 X1 X2 X3 (fun s => rc s) d u) Q := by
        unfold j_X12_product_28
        obtain ⟨hSlt, eop⟩ := zr_op hb hu (by rcases hk0 with e | e <;> rw [e] <;> decide)
        have hn5 := (zrw_x hb hu.1).1
        rw [hu.2.1, zi_rd (by omega) (by omega), Option.bind_some]
        have eop : u.1 242 (zS T n x.2.1) = zpop (zKk T n x.2.1) := by
          rw [zst_p (by rcases hk0 with e | e <;> rw [e] <;> decide)]
          exact eop
        rw [eop]
        refine zs_bind (zr_go hb hu) fun v hv => ?_
        refine zr_then (hF v (zpnx x) D (r + 1) hx hv g1 hn) (fun hp v2 hv2 => ?_) (fun hp v2 hv2 => ?_)
        · rw [if_neg (show ¬ (1 : Int32) = 0 by decide)]
          obtain ⟨v3, e3, hv3⟩ := zr_put hb hv2 hp (op := zpop (zKk T n x.2.1)) (v := 0) (zpG_n hm5 (hg _ D (r + 1) g1 hn) hp)
          rw [e3, Option.bind_some]
          exact K1 hp v3 hv3
        · rw [if_pos rfl]
          exact zs_ret (K0 hp v2 hv2)
      unfold f_X12_product_10
      rw [zr_sg hb hu hx (by decide), Option.bind_some]
      cases h42 : zpis (zKk T n) 42 x
      · rw [h42, Bool.false_or] at hc
        rw [if_pos (show zb false = 0 from rfl), zr_sg hb hu hx (by decide), Option.bind_some, hc, if_neg (show ¬ zb true = 0 by decide)]
        exact key
      · rw [if_neg (show ¬ zb true = 0 by decide)]
        exact key
    · show f_X12_product_10 X1 X2 X3 (fun s => rc s) d u = some (1, u)
      rw [Bool.or_eq_false_iff] at hc
      unfold f_X12_product_10
      rw [zr_sg hb hu hx (by decide), Option.bind_some, hc.1, if_pos (show zb false = 0 from rfl), zr_sg hb hu hx (by decide), Option.bind_some, hc.2, if_pos (show zb false = 0 from rfl)]
  · rw [if_pos rfl, zplp_i hp]
    exact zs_ret (zrs_f hp hv)
theorem zr_sum (hb : zrb T n c w) (hk : zpW (zKk T n) (zVv T n) m) {F : zpS → zpS} {need : Nat} {X1 X2 X3 : Int32 → yb_S → Option (Int32 × yb_S)} {d : Int32} (hF : zPR T n c m b w (zppr (zKk T n) F) (X2 d) need) (hg : zPG m b (zppr (zKk T n) F) need) (hm : zPM (zppr (zKk T n) F)) : zPR T n c m b w (zpsm (zKk T n) F) (f_X12_sum X1 X2 X3 d) (need + 1) := by
  have hm5 := hk.1
  intro u x D r hx hu hG hn
  unfold f_X12_sum l_X12_sum_10 zpsm
  refine zr_then (hF u x D r hx hu hG (by omega)) (fun hp v hv => ?_) (fun hp v hv => ?_)
  · rw [if_neg (show ¬ (1 : Int32) = 0 by decide)]
    refine zr_lp hb hk hg hm (by decide) (by decide) zbin_42.2.2.1 zbin_42.2.2.2.1 (fun u x D r rc Q hx hu hG hn hc K1 K0 => ?_) (fun u x rc hx hu hc => ?_) hp hv (hg x D r hG (by omega)) (by omega) (by omega)
    · show zs_P (f_X12_sum_10 X1 X2 X3 (fun s => rc s) d u) Q
      have hk0 := (zbin_op zbin_42.2.2.1 zbin_42.2.2.2.1 hc).2.2
      have g1 := zpG_nx2 hk hG (by decide) (by decide) hc
      have hlt : x.2.1 + 1 ≤ m := g1.1
      have key : zs_P (j_X12_sum_28 X1 X2 X3 (fun s => rc s) d u) Q := by
        unfold j_X12_sum_28
        obtain ⟨hSlt, eop⟩ := zr_op hb hu (by rcases hk0 with e | e <;> rw [e] <;> decide)
        have hn5 := (zrw_x hb hu.1).1
        rw [hu.2.1, zi_rd (by omega) (by omega), Option.bind_some]
        have eop : u.1 242 (zS T n x.2.1) = zpop (zKk T n x.2.1) := by
          rw [zst_p (by rcases hk0 with e | e <;> rw [e] <;> decide)]
          exact eop
        rw [eop]
        refine zs_bind (zr_go hb hu) fun v hv => ?_
        refine zr_then (hF v (zpnx x) D (r + 1) hx hv g1 hn) (fun hp v2 hv2 => ?_) (fun hp v2 hv2 => ?_)
        · rw [if_neg (show ¬ (1 : Int32) = 0 by decide)]
          obtain ⟨v3, e3, hv3⟩ := zr_put hb hv2 hp (op := zpop (zKk T n x.2.1)) (v := 0) (zpG_n hm5 (hg _ D (r + 1) g1 hn) hp)
          rw [e3, Option.bind_some]
          exact K1 hp v3 hv3
        · rw [if_pos rfl]
          exact zs_ret (K0 hp v2 hv2)
      unfold f_X12_sum_10
      rw [zr_sg hb hu hx (by decide), Option.bind_some]
      cases h42 : zpis (zKk T n) 43 x
      · rw [h42, Bool.false_or] at hc
        rw [if_pos (show zb false = 0 from rfl), zr_sg hb hu hx (by decide), Option.bind_some, hc, if_neg (show ¬ zb true = 0 by decide)]
        exact key
      · rw [if_neg (show ¬ zb true = 0 by decide)]
        exact key
    · show f_X12_sum_10 X1 X2 X3 (fun s => rc s) d u = some (1, u)
      rw [Bool.or_eq_false_iff] at hc
      unfold f_X12_sum_10
      rw [zr_sg hb hu hx (by decide), Option.bind_some, hc.1, if_pos (show zb false = 0 from rfl), zr_sg hb hu hx (by decide), Option.bind_some, hc.2, if_pos (show zb false = 0 from rfl)]
  · rw [if_pos rfl, zplp_i hp]
    exact zs_ret (zrs_f hp hv)
theorem zr_each (hb : zrb T n c w) (hk : zpW (zKk T n) (zVv T n) m) {F : zpS → zpS} {need : Nat} {X1 X2 X3 : Int32 → yb_S → Option (Int32 × yb_S)} {d : Int32} (hF : zPR T n c m b w F (X3 d) need) (hg : zPG m b F need) (hm : zPM F) : zPR T n c m b w (zpea (zKk T n) F) (f_X12_each X1 X2 X3 d) (need + 1) := by
  have hm5 := hk.1
  intro u x D r hx hu hG hn
  unfold f_X12_each l_X12_each_10 zpea
  refine zr_then (hF u x D r hx hu hG (by omega)) (fun hp v hv => ?_) (fun hp v hv => ?_)
  · rw [if_neg (show ¬ (1 : Int32) = 0 by decide)]
    refine zr_lp hb hk hg hm (by decide) (by decide) zbin_42.2.2.2.2.1 zbin_42.2.2.2.2.1 (fun u x D r rc Q hx hu hG hn hc K1 K0 => ?_) (fun u x rc hx hu hc => ?_) hp hv (hg x D r hG (by omega)) (by omega) (by omega)
    · show zs_P (f_X12_each_10 X1 X2 X3 (fun s => rc s) d u) Q
      have g1 := zpG_nx2 hk hG (by decide) (by decide) hc
      rw [Bool.or_self] at hc
      have hx2 := (zpis_t hc).2
      unfold f_X12_each_10
      rw [show (100026 : Nat) = 100000 + zwj 6 from rfl, zr_wd hb hu hx (by decide), show zkw (some 6) = 4 from rfl, Option.bind_some, hc, if_neg (show ¬ zb true = 0 by decide)]
      refine zs_bind (zr_go hb hu) fun v hv => ?_
      refine zr_then (hF v (zpnx x) D (r + 1) hx hv g1 hn) (fun hp v2 hv2 => ?_) (fun hp v2 hv2 => ?_)
      · rw [if_neg (show ¬ (1 : Int32) = 0 by decide)]
        obtain ⟨v3, e3, hv3⟩ := zr_put hb hv2 hp (op := zpop 4) (v := 0) (zpG_n hm5 (hg _ D (r + 1) g1 hn) hp)
        rw [show f_X12_puts 38 0 v2 = some (1, v3) from e3, Option.bind_some]
        rw [hx2] at K1
        exact K1 hp v3 hv3
      · rw [if_pos rfl]
        exact zs_ret (K0 hp v2 hv2)
    · show f_X12_each_10 X1 X2 X3 (fun s => rc s) d u = some (1, u)
      rw [Bool.or_self] at hc
      unfold f_X12_each_10
      rw [show (100026 : Nat) = 100000 + zwj 6 from rfl, zr_wd hb hu hx (by decide), show zkw (some 6) = 4 from rfl, Option.bind_some, hc, if_pos (show zb false = 0 from rfl)]
  · rw [if_pos rfl, zplp_i hp]
    exact zs_ret (zrs_f hp hv)
theorem zr_any (hb : zrb T n c w) (hk : zpW (zKk T n) (zVv T n) m) {F : zpS → zpS} {need : Nat} {X1 X2 X3 : Int32 → yb_S → Option (Int32 × yb_S)} {d : Int32} (hF : zPR T n c m b w (zpea (zKk T n) F) (X1 d) need) (hg : zPG m b (zpea (zKk T n) F) need) (hm : zPM (zpea (zKk T n) F)) : zPR T n c m b w (zpan (zKk T n) F) (f_X12_either X1 X2 X3 d) (need + 1) := by
  have hm5 := hk.1
  intro u x D r hx hu hG hn
  unfold f_X12_either l_X12_either_10 zpan
  refine zr_then (hF u x D r hx hu hG (by omega)) (fun hp v hv => ?_) (fun hp v hv => ?_)
  · rw [if_neg (show ¬ (1 : Int32) = 0 by decide)]
    refine zr_lp hb hk hg hm (by decide) (by decide) zbin_42.2.2.2.2.2 zbin_42.2.2.2.2.2 (fun u x D r rc Q hx hu hG hn hc K1 K0 => ?_) (fun u x rc hx hu hc => ?_) hp hv (hg x D r hG (by omega)) (by omega) (by omega)
    · show zs_P (f_X12_either_10 X1 X2 X3 (fun s => rc s) d u) Q
      have g1 := zpG_nx2 hk hG (by decide) (by decide) hc
      rw [Bool.or_self] at hc
      have hx2 := (zpis_t hc).2
      unfold f_X12_either_10
      rw [show (100027 : Nat) = 100000 + zwj 7 from rfl, zr_wd hb hu hx (by decide), show zkw (some 7) = 5 from rfl, Option.bind_some, hc, if_neg (show ¬ zb true = 0 by decide)]
      refine zs_bind (zr_go hb hu) fun v hv => ?_
      refine zr_then (hF v (zpnx x) D (r + 1) hx hv g1 hn) (fun hp v2 hv2 => ?_) (fun hp v2 hv2 => ?_)
      · rw [if_neg (show ¬ (1 : Int32) = 0 by decide)]
        obtain ⟨v3, e3, hv3⟩ := zr_put hb hv2 hp (op := zpop 5) (v := 0) (zpG_n hm5 (hg _ D (r + 1) g1 hn) hp)
        rw [show f_X12_puts 124 0 v2 = some (1, v3) from e3, Option.bind_some]
        rw [hx2] at K1
        exact K1 hp v3 hv3
      · rw [if_pos rfl]
        exact zs_ret (K0 hp v2 hv2)
    · show f_X12_either_10 X1 X2 X3 (fun s => rc s) d u = some (1, u)
      rw [Bool.or_self] at hc
      unfold f_X12_either_10
      rw [show (100027 : Nat) = 100000 + zwj 7 from rfl, zr_wd hb hu hx (by decide), show zkw (some 7) = 5 from rfl, Option.bind_some, hc, if_pos (show zb false = 0 from rfl)]
  · rw [if_pos rfl, zplp_i hp]
    exact zs_ret (zrs_f hp hv)
/-- one level of a factor -/
theorem zr_facT (hb : zrb T n c w) (hk : zpW (zKk T n) (zVv T n) m) {X1 X2 X3 : Int32 → yb_S → Option (Int32 × yb_S)} {L d : Nat} (hd : d + L = 8) (hS : ∀ L', L = L' + 1 → zPR T n c m b w (zpsm (zKk T n) (zpfc (zKk T n) (zVv T n) L')) (X3 (zi (d + 1))) (2 * L' + 3)) : zPR T n c m b w (zpfc (zKk T n) (zVv T n) L) (f_X12_factor X1 X2 X3 (zi d)) (2 * L + 1) := by
  have hm5 := hk.1
  intro u x D r hx hu hG hn
  have hi := hG.1
  have hxu := zrw_x hb hu.1
  have hk1 := zpis_e (K := zKk T n) (c := 1) hx
  have hk2 := zpis_e (K := zKk T n) (c := 2) hx
  have hk40 := zpis_e (K := zKk T n) (c := 40) hx
  unfold f_X12_factor
  rw [zr_sg hb hu hx (by decide), Option.bind_some]
  cases h40 : zpis (zKk T n) 40 x
  · rw [if_pos (show zb false = 0 from rfl)]
    rcases zm_isNum hxu zS_n hu.2.1 hu.2.2.1 with ⟨hkk, v, e1, hv9, hv1, hv7⟩ | ⟨hne, e1⟩
    · rw [e1, Option.bind_some, if_neg (show ¬ (1 : Int32) = 0 by decide)]
      have hu9 : zrf T n c w (yb_pI u 176 49 (zi v)) x := by
        obtain ⟨q0, q1, q2, q3, q4, q5⟩ := hu
        refine ⟨zrw_k q0 (by omega), ?_, ?_, ?_, ?_, fun k hk => ?_⟩
        · rw [zu_id, if_neg (by decide)]; exact q1
        · rw [zu_id, if_neg (by decide)]; exact q2
        · rw [zu_id, if_neg (by decide)]; exact q3
        · rw [zu_id, if_neg (by decide)]; exact q4
        · rw [zu_ne (by omega), zu_ne (by omega)]; exact q5 k hk
      have e49 : (yb_pI u 176 49 (zi v)).1 176 49 = zi v := zu_eq
      dsimp only
      rw [e49]
      unfold j_X12_factor_81
      rcases hkk with hk' | ⟨hk', -⟩
      · have hK : zKk T n x.2.1 = 1 := hk'
        have h1 : zpis (zKk T n) 1 x = true := by rw [hk1, hK]; rfl
        have ez : zpfc (zKk T n) (zVv T n) L x = zpt 110 (zVv T n x.2.1) (zpnx x) := by
          cases L <;> unfold zpfc <;> simp only [h1, cond_true]
        have hV : zVv T n x.2.1 = zi v := (hv1 hk').2
        have hv5 := (hv1 hk').1
        rw [if_neg (by rw [show (99999 : Int32) = zi 99999 from rfl, zi_lt (by omega) (by omega)]; omega), ez, hV]
        refine zr_then (p := zpnx) (x := x) (zr_pass hb hu9 hx true) (fun hp v2 hv2 => ?_) (fun hp v2 hv2 => ?_)
        · rw [if_neg (show ¬ (1 : Int32) = 0 by decide)]
          obtain ⟨v3, e3, hv3⟩ := zr_put hb hv2 hp (op := 110) (v := zi v) (show (zpnx x).2.2.1 < 520 from zpG_n (x := x) hm5 hG hx)
          rw [e3, Option.bind_some, if_neg (show ¬ (1 : Int32) = 0 by decide)]
          exact zs_ret (zrs_t (by rw [zpt_1]; exact hp) hv3)
        · have hp : x.1 = false := hp
          rw [hx] at hp
          cases hp
      · have hK : zKk T n x.2.1 = 7 := hk'
        have h1 : zpis (zKk T n) 1 x = false := by rw [hk1, hK]; rfl
        have h2 : zpis (zKk T n) 2 x = false := by rw [hk2, hK]; rfl
        have ez : zpfc (zKk T n) (zVv T n) L x = zpfl x := by
          cases L <;> unfold zpfc <;> simp only [h1, h2, h40, cond_false]
        have hv5 := hv7 (by rw [hk']; decide)
        rw [if_pos (by rw [show (99999 : Int32) = zi 99999 from rfl, zi_lt (by omega) (by omega)]; omega), ez]
        refine zr_then (p := zpfl) (x := x) (zr_pass hb hu9 hx false) (fun hp v2 hv2 => by cases hp) (fun hp v2 hv2 => ?_)
        rw [if_pos rfl]
        exact zs_ret (zrs_f hp hv2)
    · rw [e1, Option.bind_some, if_pos rfl]
      have hK1 : zKk T n x.2.1 ≠ 1 := hne
      have h1 : zpis (zKk T n) 1 x = false := by rw [hk1]; exact beq_eq_false_iff_ne.mpr hK1
      dsimp only
      unfold l_X12_factor_105
      have word : ∀ k, k < 18 → f_X12_isWord_str (100007 + 1 * k) u = some (zb (zwd T (zS T n x.2.1) (zen T n (zS T n x.2.1)) (zwj (9 + k)))) := fun k hk => by
        have ew : zwj (9 + k) = 7 + k := by
          unfold zwj
          rw [if_neg (by omega), if_neg (by omega), if_neg (by omega), if_neg (by omega)]
          omega
        rw [show 100007 + 1 * k = 100000 + (7 + k) by omega, zm_isWord hxu zS_n hu.2.1 hu.2.2.1 (by omega) (by omega), ew]
      by_cases hK2 : zKk T n x.2.1 = 2
      · have h2 : zpis (zKk T n) 2 x = true := by rw [hk2, hK2]; rfl
        have ez : zpfc (zKk T n) (zVv T n) L x = zpt 118 (zVv T n x.2.1) (zpnx x) := by
          cases L <;> unfold zpfc <;> simp only [h1, h2, cond_false, cond_true]
        obtain ⟨j, hj, hw, ej, ev⟩ := zki_b (T := T) (n := n) (p := zS T n x.2.1) (Or.inl hK2)
        have hj9 : 9 ≤ j := by
          have hK2 : zki T n (zS T n x.2.1) = 2 := hK2
          rw [hK2, zkw_j] at ej
          repeat' split at ej
          all_goals first | omega | exact absurd ej (by decide)
        have hV : zVv T n x.2.1 = zi (j - 9) := ev.trans (if_pos hj9)
        rw [ez, hV]
        refine zs_up (fun k a => a = zi k) (j - 9) ?_ yb_N 0 _ (Nat.zero_le _) (by unfold yb_N; omega) rfl
        intro k a rc hkk ia hnx
        subst ia
        show zs_P (f_X12_factor_105 X1 X2 X3 (fun x2 => rc x2) u (zi k)) _
        unfold f_X12_factor_105
        rw [if_neg (by rw [show (18 : Int32) = zi 18 from rfl, zi_le (by omega) (by omega)]; omega), zi_ri (by omega) (by omega), Option.bind_some, word k (by omega), Option.bind_some]
        rcases Nat.lt_or_ge k (j - 9) with q | q
        · have hf : zwd T (zS T n x.2.1) (zen T n (zS T n x.2.1)) (zwj (9 + k)) = false := by
            cases hq : zwd T (zS T n x.2.1) (zen T n (zS T n x.2.1)) (zwj (9 + k))
            · rfl
            · have := zwj_inj (by omega) hj (zwd_u (zwj_lt (by omega)).2 (zwj_lt hj).2 (zwj_lt (by omega)).1 (zwj_lt hj).1 hq hw)
              omega
          rw [hf, if_pos (show zb false = 0 from rfl), zi_succ]
          exact hnx q _ rfl
        · have ek : k = j - 9 := Nat.le_antisymm hkk q
          rw [show 9 + k = j by omega, hw, if_neg (show ¬ zb true = 0 by decide)]
          refine zr_then (p := zpnx) (x := x) (zr_pass hb hu hx true) (fun hp v2 hv2 => ?_) (fun hp v2 hv2 => ?_)
          · rw [if_neg (show ¬ (1 : Int32) = 0 by decide)]
            obtain ⟨v3, e3, hv3⟩ := zr_put hb hv2 hp (op := 118) (v := zi k) (show (zpnx x).2.2.1 < 520 from zpG_n (x := x) hm5 hG hx)
            rw [e3, Option.bind_some, if_neg (show ¬ (1 : Int32) = 0 by decide), ← ek]
            exact zs_ret (zrs_t (by rw [zpt_1]; exact hp) hv3)
          · have hp : x.1 = false := hp
            rw [hx] at hp
            cases hp
      · have h2 : zpis (zKk T n) 2 x = false := by rw [hk2]; exact beq_eq_false_iff_ne.mpr hK2
        have ez : zpfc (zKk T n) (zVv T n) L x = zpfl x := by
          cases L <;> unfold zpfc <;> simp only [h1, h2, h40, cond_false]
        rw [ez]
        refine zs_up (fun k a => a = zi k) 18 ?_ yb_N 0 _ (Nat.zero_le _) (by decide) rfl
        intro k a rc hkk ia hnx
        subst ia
        show zs_P (f_X12_factor_105 X1 X2 X3 (fun x2 => rc x2) u (zi k)) _
        unfold f_X12_factor_105
        rcases Nat.lt_or_ge k 18 with q | q
        · have hf : zwd T (zS T n x.2.1) (zen T n (zS T n x.2.1)) (zwj (9 + k)) = false := by
            cases hq : zwd T (zS T n x.2.1) (zen T n (zS T n x.2.1)) (zwj (9 + k))
            · rfl
            · have := (zki_w zS_n (by omega) hq).1
              rw [zkw_j, if_pos (by omega)] at this
              exact absurd this hK2
          rw [if_neg (by rw [show (18 : Int32) = zi 18 from rfl, zi_le (by omega) (by omega)]; omega), zi_ri (by omega) (by omega), Option.bind_some, word k q, Option.bind_some, hf, if_pos (show zb false = 0 from rfl), zi_succ]
          exact hnx q _ rfl
        · rw [if_pos (by rw [show (18 : Int32) = zi 18 from rfl, zi_le (by omega) (by omega)]; omega)]
          exact zr_flS hu
  · have hK : zKk T n x.2.1 = 40 := (zpis_t h40).2
    have h1 : zpis (zKk T n) 1 x = false := by rw [hk1, hK]; rfl
    have h2 : zpis (zKk T n) 2 x = false := by rw [hk2, hK]; rfl
    rw [if_neg (show ¬ zb true = 0 by decide)]
    unfold j_X12_factor_21
    cases L with
    | zero =>
      have ez : zpfc (zKk T n) (zVv T n) 0 x = zpfl x := by
        unfold zpfc
        simp only [h1, h2, cond_false]
      rw [if_pos (by rw [show (8 : Int32) = zi 8 from rfl, zi_le (by omega) (by omega)]; omega), ez]
      refine zr_then (p := zpfl) (x := x) (zr_pass hb hu hx false) (fun hp v2 hv2 => by cases hp) (fun hp v2 hv2 => ?_)
      rw [if_pos rfl]
      exact zs_ret (zrs_f hp hv2)
    | succ L' =>
      have ez : zpfc (zKk T n) (zVv T n) (L' + 1) x = zpps (zKk T n) 41 (zpsm (zKk T n) (zpfc (zKk T n) (zVv T n) L') (zpnx x)) := by
        show cond (zpis (zKk T n) 1 x) _ (cond (zpis (zKk T n) 2 x) _ (cond (zpis (zKk T n) 40 x) _ _)) = _
        rw [h1, h2, h40]
        rfl
      rw [if_neg (by rw [show (8 : Int32) = zi 8 from rfl, zi_le (by omega) (by omega)]; omega), ez]
      have g1 := zpG_nx hk hG (by decide) h40
      refine zr_then (p := zpnx) (x := x) (zr_pass hb hu hx true) (fun hp v2 hv2 => ?_) (fun hp v2 hv2 => ?_)
      · rw [if_neg (show ¬ (1 : Int32) = 0 by decide), zi_succ]
        refine zr_then (hS L' rfl v2 (zpnx x) D (r + 1) hp hv2 g1 (by omega)) (fun hq v3 hv3 => ?_) (fun hq v3 hv3 => ?_)
        · rw [if_neg (show ¬ (1 : Int32) = 0 by decide), zr_sg hb hv3 hq (by decide), Option.bind_some]
          refine zs_bind (zr_pass hb hv3 hq _) fun a ha => ?_
          obtain ⟨a1, a2⟩ := a
          have ep : cond (zpis (zKk T n) 41 (zpsm (zKk T n) (zpfc (zKk T n) (zVv T n) L') (zpnx x))) (zpnx (zpsm (zKk T n) (zpfc (zKk T n) (zVv T n) L') (zpnx x))) (zpfl (zpsm (zKk T n) (zpfc (zKk T n) (zVv T n) L') (zpnx x))) = zpps (zKk T n) 41 (zpsm (zKk T n) (zpfc (zKk T n) (zVv T n) L') (zpnx x)) := rfl
          rw [ep] at ha
          cases hp : (zpps (zKk T n) 41 (zpsm (zKk T n) (zpfc (zKk T n) (zVv T n) L') (zpnx x))).1
          · obtain ⟨q1, q2⟩ := ha.2 hp
            dsimp only at q1 q2
            rw [if_pos q1]
            exact zs_ret (zrs_f hp q2)
          · obtain ⟨q1, q2⟩ := ha.1 hp
            dsimp only at q1 q2
            rw [if_neg (show ¬ a1 = 0 by rw [q1]; decide)]
            exact zs_ret (zrs_t hp q2)
        · rw [if_pos rfl, zpps_i hq]
          exact zs_ret (zrs_f hq hv3)
      · have hp : x.1 = false := hp
        rw [hx] at hp
        cases hp
theorem zr_F (hb : zrb T n c w) (hk : zpW (zKk T n) (zVv T n) m) : ∀ (L d : Nat), d + L = 8 → (∀ f, 3 * L + 1 ≤ f → zPR T n c m b w (zpfc (zKk T n) (zVv T n) L) ((gg_X12_factor f).1 (zi d)) (2 * L + 1)) ∧ (∀ f, 3 * L + 2 ≤ f → zPR T n c m b w (zppr (zKk T n) (zpfc (zKk T n) (zVv T n) L)) ((gg_X12_factor f).2.1 (zi d)) (2 * L + 2)) ∧ ∀ f, 3 * L + 3 ≤ f → zPR T n c m b w (zpsm (zKk T n) (zpfc (zKk T n) (zVv T n) L)) ((gg_X12_factor f).2.2 (zi d)) (2 * L + 3) := by
  intro L
  induction L with
  | zero =>
    intro d hd
    have A : ∀ f, 3 * 0 + 1 ≤ f → zPR T n c m b w (zpfc (zKk T n) (zVv T n) 0) ((gg_X12_factor f).1 (zi d)) (2 * 0 + 1) := fun f hf => by
      obtain ⟨f, rfl⟩ : ∃ g, f = g + 1 := ⟨f - 1, by omega⟩
      exact zr_facT hb hk hd (fun L' e => by omega)
    have B : ∀ f, 3 * 0 + 2 ≤ f → zPR T n c m b w (zppr (zKk T n) (zpfc (zKk T n) (zVv T n) 0)) ((gg_X12_factor f).2.1 (zi d)) (2 * 0 + 2) := fun f hf => by
      obtain ⟨f, rfl⟩ : ∃ g, f = g + 1 := ⟨f - 1, by omega⟩
      exact zr_prod hb hk (A f (by omega)) (zpfc_g hk) zpfc_m
    refine ⟨A, B, fun f hf => ?_⟩
    obtain ⟨f, rfl⟩ : ∃ g, f = g + 1 := ⟨f - 1, by omega⟩
    exact zr_sum hb hk (B f (by omega)) (zppr_g hk (zpfc_g hk)) (zppr_m zpfc_m)
  | succ L ih =>
    intro d hd
    have A : ∀ f, 3 * (L + 1) + 1 ≤ f → zPR T n c m b w (zpfc (zKk T n) (zVv T n) (L + 1)) ((gg_X12_factor f).1 (zi d)) (2 * (L + 1) + 1) := fun f hf => by
      obtain ⟨f, rfl⟩ : ∃ g, f = g + 1 := ⟨f - 1, by omega⟩
      refine zr_facT hb hk hd (fun L' e => ?_)
      have e2 : L' = L := by omega
      subst e2
      exact (ih (d + 1) (by omega)).2.2 f (by omega)
    have B : ∀ f, 3 * (L + 1) + 2 ≤ f → zPR T n c m b w (zppr (zKk T n) (zpfc (zKk T n) (zVv T n) (L + 1))) ((gg_X12_factor f).2.1 (zi d)) (2 * (L + 1) + 2) := fun f hf => by
      obtain ⟨f, rfl⟩ : ∃ g, f = g + 1 := ⟨f - 1, by omega⟩
      exact zr_prod hb hk (A f (by omega)) (zpfc_g hk) zpfc_m
    refine ⟨A, B, fun f hf => ?_⟩
    obtain ⟨f, rfl⟩ : ∃ g, f = g + 1 := ⟨f - 1, by omega⟩
    exact zr_sum hb hk (B f (by omega)) (zppr_g hk (zpfc_g hk)) (zppr_m zpfc_m)
theorem zr_S (hb : zrb T n c w) (hk : zpW (zKk T n) (zVv T n) m) {L d : Nat} (hd : d + L = 8) : zPR T n c m b w (zpsm (zKk T n) (zpfc (zKk T n) (zVv T n) L)) (g_X12_sum (zi d)) (2 * L + 3) := (zr_F hb hk L d hd).2.2 120 (by omega)
end
