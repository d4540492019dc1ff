/-! frames: what stays the same -/
def fr_sx (u u' : SX) : Prop := xa_lineCount u' = xb_lineCount u ∧ xa_kinds u' = xb_kinds u ∧ xa_argA u' = xb_argA u ∧ xa_argB u' = xb_argB u ∧ xa_argC u' = xb_argC u ∧ xa_functionCount u' = xb_functionCount u ∧ xa_blockOf u' = xb_blockOf u ∧ xa_endOf u' = xb_endOf u ∧ xa_elseOf u' = xb_elseOf u ∧ xa_functionLine u' = xb_functionLine u
theorem sx_fr {u u' : SX} {n : Nat} (f : fr_sx u u') (T : sx_st u n) : sx_st u' n := by
  obtain ⟨a1, a2, a3, a4, a5, a6, a7, a8, a9, a10⟩ := f
  unfold sx_st
  rw [a1, a2, a3, a4, a5, a6, a7, a8, a9, a10]
  exact T
theorem fr_sx_r {u : SX} : fr_sx u u := ⟨rfl, rfl, rfl, rfl, rfl, rfl, rfl, rfl, rfl, rfl⟩
theorem fr_sx_t {u u' u'' : SX} (a : fr_sx u u') (b : fr_sx u' u'') : fr_sx u u'' :=
  ⟨b.1.trans a.1, b.2.1.trans a.2.1, b.2.2.1.trans a.2.2.1, b.2.2.2.1.trans a.2.2.2.1, b.2.2.2.2.1.trans a.2.2.2.2.1, b.2.2.2.2.2.1.trans a.2.2.2.2.2.1, b.2.2.2.2.2.2.1.trans a.2.2.2.2.2.2.1, b.2.2.2.2.2.2.2.1.trans a.2.2.2.2.2.2.2.1, b.2.2.2.2.2.2.2.2.1.trans a.2.2.2.2.2.2.2.2.1, b.2.2.2.2.2.2.2.2.2.trans a.2.2.2.2.2.2.2.2.2⟩
def fr_e (k g : Nat) (a b : Nat → Int32) : Prop := ∀ i, i < k → b (k * g + i) = a (k * g + i)
theorem fr_er {k g : Nat} {a : Nat → Int32} : fr_e k g a a := fun _ _ => rfl
theorem fr_et {k g : Nat} {a b c : Nat → Int32} (h : fr_e k g a b) (h' : fr_e k g b c) : fr_e k g a c := fun i hi => (h' i hi).trans (h i hi)
theorem fr_eu {k g : Nat} {a : Nat → Int32} {j : Nat} {x : Int32} (h : j < k * g ∨ k * g + k ≤ j) : fr_e k g a (upd a j x) := fun i hi => pk_un (by omega)
theorem fr_e4 {g g' j : Nat} {a : Nat → Int32} {x : Int32} (h : ¬ g' = g) (hj : j < 4) : fr_e 4 g' a (upd a (4 * g + j) x) := fr_eu (by omega)
def fr_gx (u u' : SX) (g : Nat) : Prop := xa_status u' g = xb_status u g ∧ xa_depth u' g = xb_depth u g ∧ xa_waitUntil u' g = xb_waitUntil u g ∧ fr_e 3 g (xb_slotWish u) (xa_slotWish u') ∧ fr_e 3 g (xb_slotLine u) (xa_slotLine u') ∧ fr_e 4 g (xb_position u) (xa_position u') ∧ fr_e 4 g (xb_mode u) (xa_mode u') ∧ fr_e 4 g (xb_noteCount u) (xa_noteCount u') ∧ fr_e 12 g (xb_noteFunction u) (xa_noteFunction u') ∧ fr_e 24 g (xb_noteValues u) (xa_noteValues u') ∧ fr_e 24 g (xb_variables u) (xa_variables u')
def fr_gy (v v' : SY) (g : Nat) : Prop := ya_status v' g = yb_status v g ∧ ya_depth v' g = yb_depth v g ∧ ya_resume v' g = yb_resume v g ∧ ya_shocked v' g = yb_shocked v g ∧ ya_until v' g = yb_until v g ∧ ya_channels v' g = yb_channels v g ∧ fr_e 4 g (yb_pc v) (ya_pc v') ∧ fr_e 4 g (yb_asNote v) (ya_asNote v') ∧ fr_e 4 g (yb_panics v) (ya_panics v') ∧ fr_e 12 g (yb_noteB v) (ya_noteB v') ∧ fr_e 12 g (yb_noteC v) (ya_noteC v')
theorem fr_gx_r {u : SX} {g : Nat} : fr_gx u u g := ⟨rfl, rfl, rfl, fr_er, fr_er, fr_er, fr_er, fr_er, fr_er, fr_er, fr_er⟩
theorem fr_gy_r {v : SY} {g : Nat} : fr_gy v v g := ⟨rfl, rfl, rfl, rfl, rfl, rfl, fr_er, fr_er, fr_er, fr_er, fr_er⟩
theorem rl_val_fr {a b : Nat → Int32} {g j : Nat} (hj : j < 4) (h : fr_e 24 g a b) {op : Int32} : rl_val b (4 * g + j) op = rl_val a (4 * g + j) op := by
  unfold rl_val
  by_cases h0 : op < 0
  · rw [if_pos h0, if_pos h0]
  · by_cases h6 : (6 : Int32) ≤ op
    · rw [if_neg h0, if_neg h0, if_pos h6, if_pos h6]
    · rw [if_neg h0, if_neg h0, if_neg h6, if_neg h6]
      obtain ⟨p, hp, e⟩ := rg_lt (N := 6) (by decide) h0 h6
      subst e
      rw [nI_clamp (by omega)]
      have := h (6 * j + p) (by omega)
      rw [show 6 * (4 * g + j) + p = 24 * g + (6 * j + p) by omega]
      exact this
theorem rl_wish_fr {K A B a b : Nat → Int32} {g j i : Nat} {m : Int32} (hj : j < 4) (h : fr_e 24 g a b) : rl_wish K A B b (4 * g + j) m i = rl_wish K A B a (4 * g + j) m i := by
  unfold rl_wish
  rw [rl_val_fr hj h, rl_val_fr hj h]
theorem sl_lt {K : Nat → Int32} {n w j : Nat} (ok : ∀ j, j < n → fm_ok K j) (hj : j < n) (hd : (st_s K j).head? = some w) (hc : st_pc (K j) = true) : st_n K st_pc w j < 3 := by
  cases e : st_s K j with
  | nil => rw [e] at hd; exact absurd hd (by simp)
  | cons o r =>
    rw [e] at hd
    have ow : o = w := by simpa using hd
    subst ow
    obtain ⟨_, h | ⟨_, _, h, _⟩ | ⟨_, h, _⟩⟩ := (fm_cons e).mp (ok j hj)
    · rw [h] at hc; exact absurd hc (by decide)
    · exact h hc
    · exact absurd (sec_or.mpr (Or.inl hc)) h
theorem rl_slo_fr {u u' : SX} {v v' : SY} {n g j w : Nat} (f : fr_sx u u') (ok : ∀ j, j < n → fm_ok (xa_kinds u) j) (hj : j < 4) (x : fr_gx u u' g) (y : fr_gy v v' g) (H : rl_slo u v n g (4 * g + j) w) : rl_slo u' v' n g (4 * g + j) w := by
  obtain ⟨_, a2, a3, a4, _⟩ := f
  obtain ⟨_, _, _, x4, x5, _, _, _, _, _, x11⟩ := x
  obtain ⟨_, _, _, _, _, y6, _⟩ := y
  obtain ⟨h1, h2, h3⟩ := H
  unfold rl_slo
  rw [a2, a3, a4, y6]
  refine ⟨fun k i hi => (x4 i hi).trans (h1 k i hi), fun k => ?_, fun k => ⟨fun i hi p q => ?_, fun i p q => (x4 i q).trans ((h3 k).2 i p q)⟩⟩
  · obtain ⟨b1, b2, b3, b4⟩ := h2 k
    rw [rl_wish_fr hj x11]
    exact ⟨(x4 0 (by decide)).trans b1, (x5 0 (by decide)).trans b2, (x4 1 (by decide)).trans b3, (x4 2 (by decide)).trans b4⟩
  · obtain ⟨b1, b2⟩ := (h3 k).1 i hi p q
    have lt := sl_lt ok hi p q
    rw [rl_wish_fr hj x11]
    exact ⟨(x5 _ lt).trans b1, (x4 _ lt).trans b2⟩
theorem rl_wt_fr {W : Nat} {u u' : SX} {v v' : SY} {n g d : Nat} (f : fr_sx u u') (ok : ∀ j, j < n → fm_ok (xa_kinds u) j) (d0 : 0 < d) (d4 : d ≤ 4) (x : fr_gx u u' g) (y : fr_gy v v' g) (H : rl_wt W u v n g d) : rl_wt W u' v' n g d := by
  obtain ⟨j, rfl⟩ : ∃ j, d = j + 1 := ⟨d - 1, by omega⟩
  obtain ⟨w, w1, w2, w3, w4, w5, w6, w7, w8⟩ := H
  have a2 := f.2.1
  obtain ⟨_, _, x3, _, _, x6, _⟩ := id x
  obtain ⟨_, _, _, _, y5, y6, y7, _⟩ := id y
  have w5 := rl_slo_fr f ok (show j < 4 by omega) x y w5
  refine ⟨w, w1, by rw [a2]; exact w2, (x6 j (by omega)).trans w3, (y7 j (by omega)).trans w4, w5, by rw [y5, x3]; exact w6, by rw [x3, a2]; exact w7, by rw [y6]; exact w8⟩
theorem rl_low_fr {u u' : SX} {v v' : SY} {n g d : Nat} (a2 : xa_kinds u' = xb_kinds u) (d4 : d ≤ 4) (x6 : fr_e 4 g (xb_position u) (xa_position u')) (x7 : fr_e 4 g (xb_mode u) (xa_mode u')) (y7 : fr_e 4 g (yb_pc v) (ya_pc v')) (y8 : fr_e 4 g (yb_asNote v) (ya_asNote v')) (y9 : fr_e 4 g (yb_panics v) (ya_panics v'))
    (H : rl_low u v n g d) : rl_low u' v' n g d := by
  refine ⟨(y8 0 (by decide)).trans H.1, fun j hj => ?_⟩
  have e8 := y8 (j + 1) (by omega)
  have e7 := y7 j (by omega)
  have e9 := y9 j (by omega)
  have e6 := x6 j (by omega)
  have f7 := x7 j (by omega)
  have e8 : ya_asNote v' (4 * g + j + 1) = yb_asNote v (4 * g + j + 1) := e8
  rw [e8, e7, e9, e6, f7, a2]
  exact H.2 j hj
theorem rl_nts_fr {u u' : SX} {v v' : SY} {g d : Nat} (a6 : xa_functionCount u' = xb_functionCount u) (d4 : d ≤ 4) (x8 : fr_e 4 g (xb_noteCount u) (xa_noteCount u')) (x9 : fr_e 12 g (xb_noteFunction u) (xa_noteFunction u')) (x10 : fr_e 24 g (xb_noteValues u) (xa_noteValues u')) (y10 : fr_e 12 g (yb_noteB v) (ya_noteB v')) (y11 : fr_e 12 g (yb_noteC v) (ya_noteC v'))
    (H : rl_nts u v g d) : rl_nts u' v' g d := by
  intro j hj
  obtain ⟨c, c3, ec, h⟩ := H j hj
  refine ⟨c, c3, (x8 j (by omega)).trans ec, fun i hi => ?_⟩
  have e9 := x9 (3 * j + i) (by omega)
  have e10 := x10 (2 * (3 * j + i)) (by omega)
  have e10' := x10 (2 * (3 * j + i) + 1) (by omega)
  have f10 := y10 (3 * j + i) (by omega)
  have f11 := y11 (3 * j + i) (by omega)
  rw [show 12 * g + (3 * j + i) = 3 * (4 * g + j) + i by omega] at e9 f10 f11
  rw [show 24 * g + 2 * (3 * j + i) = 2 * (3 * (4 * g + j) + i) by omega] at e10
  rw [show 24 * g + (2 * (3 * j + i) + 1) = 2 * (3 * (4 * g + j) + i) + 1 by omega] at e10'
  rw [e9, e10, e10', f10, f11, a6]
  exact h i hi
theorem rl_nw_fr {u u' : SX} {g : Nat} (x3 : xa_waitUntil u' g = xb_waitUntil u g) (x4 : fr_e 3 g (xb_slotWish u) (xa_slotWish u')) (H : rl_nw u g) : rl_nw u' g := ⟨x3.trans H.1, fun i hi => (x4 i hi).trans (H.2 i hi)⟩
theorem rl_go_fr {W : Nat} {u u' : SX} {v v' : SY} {n g : Nat} (f : fr_sx u u') (ok : ∀ j, j < n → fm_ok (xa_kinds u) j) (x : fr_gx u u' g) (y : fr_gy v v' g) (H : rl_go W u v n g) : rl_go W u' v' n g := by
  obtain ⟨x1, x2, x3, x4, x5, x6, x7, x8, x9, x10, x11⟩ := id x
  obtain ⟨y1, y2, y3, y4, y5, y6, y7, y8, y9, y10, y11⟩ := id y
  have a2 := f.2.1
  obtain ⟨d, d4, e1, e2, H⟩ := H
  refine ⟨d, d4, x2.trans e1, y2.trans e2, ?_⟩
  rcases H with ⟨h1, h2, h3, h4, h5, h6⟩ | ⟨h1, h2, h3, h4, h5, H⟩
  · exact Or.inl ⟨h1, x1.trans h2, y1.trans h3, rl_nw_fr x3 x4 h4, y3.trans h5, y4.trans h6⟩
  · obtain ⟨j, rfl⟩ : ∃ j, d = j + 1 := ⟨d - 1, by omega⟩
    refine Or.inr ⟨h1, rl_low_fr a2 d4 x6 x7 y7 y8 y9 h2, rl_nts_fr f.2.2.2.2.2.1 d4 x8 x9 x10 y10 y11 h3, (x7 j (by omega)).trans h4, (y9 j (by omega)).trans h5, ?_⟩
    rw [x1, y1, y3, y4]
    rcases H with ⟨k1, k2, k3, k4, k5⟩ | ⟨k1, k2, k3, k4, k5⟩ | ⟨k1, k2, k3, k4, p, k5, k6, k7⟩
    · exact Or.inl ⟨k1, k2, k3, k4, rl_wt_fr f ok h1 d4 x y k5⟩
    · exact Or.inr (Or.inl ⟨k1, k2, k3, k4, rl_nw_fr x3 x4 k5⟩)
    · refine Or.inr (Or.inr ⟨k1, k2, k3, rl_nw_fr x3 x4 k4, p, k5, (x6 j (by omega)).trans k6, ?_⟩)
      rw [a2]
      rcases k7 with k7 | ⟨k7, k8, k9⟩
      · exact Or.inl k7
      · exact Or.inr ⟨k7, (y7 j (by omega)).trans k8, k9⟩
/-- nothing but goroutine g's own changes -/
def fr_x (u u' : SX) (g : Nat) : Prop := fr_sx u u' ∧ xa_goroutineCount u' = xb_goroutineCount u ∧ xa_queueLength u' = xb_queueLength u ∧ xa_waitsBegun u' = xb_waitsBegun u ∧ xa_time u' = xb_time u ∧ xa_running u' = xb_running u ∧ xa_queue u' = xb_queue u ∧ ∀ g', ¬ g' = g → fr_gx u u' g'
def fr_y (v v' : SY) (g : Nat) : Prop := ya_queue v' = yb_queue v ∧ ya_now v' = yb_now v ∧ ya_off v' = yb_off v ∧ ∀ g', ¬ g' = g → fr_gy v v' g'
theorem mid_loc {W : Nat} {u u' : SX} {v v' : SY} {n S g d d' : Nat} (H : rl_mid W u v n S g d) (fx : fr_x u u' g) (fy : fr_y v v' g) (B : rl_base u' v') (C : rl_chn u' v') (M : rl_me u' v' n g d') : rl_mid W u' v' n S g d' := by
  obtain ⟨⟨b1, b2, b3, b4, b5, b6, b7, ⟨Q, q1, q2, q3, q4⟩, ⟨w, s, t1, t2, t3, t4⟩, b10⟩, c1, c2, c3, c4, c5⟩ := H
  obtain ⟨f1, f2, f3, f4, f5, f6, f7, f8⟩ := fx
  obtain ⟨g1, g2, g3, g4⟩ := fy
  have st : ya_status v g = 1 := c5.2.2.2.2.2.2.2.1
  have st' : ya_status v' g = 1 := M.2.2.2.2.2.2.2.1
  refine ⟨⟨B, sx_fr f1 b2, b3, b4, f2.trans b5, fun q h1 h2 => ?_, C, ⟨Q, q1, f3.trans q2, fun i hi => ?_, fun q => ?_⟩, ⟨w, s, t1, f4.trans t2, t3, f5.trans t4⟩, fun q h1 h2 => ?_⟩, c1, f6.trans c2, g2.trans c3, g3.trans c4, M⟩
  · obtain ⟨y1, y2, y3, y4, _⟩ := g4 q (by omega)
    rw [y1, y2, y3, y4]
    exact b6 q h1 h2
  · rw [f7, g1]; exact q3 i hi
  · rw [q4 q]
    by_cases e : q = g
    · subst e; rw [st, st']
    · rw [(g4 q e).1]; exact Iff.rfl
  · have e : ¬ q = g := fun z => h2 (by rw [z])
    exact rl_go_fr f1 b2.2.2.2.1 (f8 q e) (g4 q e) (b10 q h1 h2)
/-- the relation's plain equations, told by the second accessors -/
def rl_bb (u : SX) (v : SY) : Prop :=
  (∃ n, n ≤ 60 ∧ xb_lineCount u = nI n ∧ yb_lines v = nI n ∧ ∀ i, i < n → ln_ok (xb_kinds u i) (xb_argA u i) (xb_argB u i) (xb_argC u i)) ∧
  yb_kind v = xb_kinds u ∧ yb_opA v = xb_argA u ∧ yb_opB v = xb_argB u ∧ yb_opC v = xb_argC u ∧ yb_bad v = xb_foundLine u ∧ yb_state v = xb_state u ∧ yb_clock v = xb_time u ∧
  yb_printed v = xb_outputCount u ∧ yb_out v = xb_outputs u ∧ yb_panicValue v = xb_endingPanic u ∧ yb_made v = xb_channelCount u ∧ yb_capacity v = xb_capacity u ∧ yb_held v = xb_fill u ∧ yb_closed v = xb_closed u ∧
  yb_started v = xb_goroutineCount u ∧ yb_turn v = xb_waitsBegun u ∧ yb_queued v = xb_queueLength u ∧ yb_vars v = xb_variables u ∧ yb_noted v = xb_noteCount u ∧ yb_noteOf v = xb_noteFunction u ∧ yb_panicWith v = xb_panicOf u ∧ yb_since v = xb_waitOrder u
theorem bs_b {u : SX} {v : SY} (B : rl_base u v) : rl_bb u v := by
  obtain ⟨L0, B1, B2, B3, B4, B5, B6, B7, B8, B9, B10, B11, B12, B13, B14, B15, B16, B17, B18, B19, B20, B21, B22⟩ := B
  exact ⟨L0, B1, B2, B3, B4, B5, B6, B7, B8, B9, B10, B11, B12, B13, B14, B15, B16, B17, B18, B19, B20, B21, B22⟩
def rl_mb (u : SX) (v : SY) (n g d : Nat) : Prop := 0 < d ∧ d ≤ 4 ∧ xb_depth u g = nI d ∧ yb_depth v g = nI d ∧ rl_low u v n g d ∧ rl_nts u v g d ∧ xb_status u g = 0 ∧ yb_status v g = 1 ∧ yb_resume v g = -1 ∧ yb_shocked v g = 0 ∧ rl_nw u g
theorem me_b {u : SX} {v : SY} {n g d : Nat} (M : rl_me u v n g d) : rl_mb u v n g d := by
  obtain ⟨m1, m2, m3, m4, m5, m6, m7, m8, m9, m10, m11⟩ := M
  exact ⟨m1, m2, m3, m4, m5, m6, m7, m8, m9, m10, m11⟩
theorem chn_fr {u u' : SX} {v v' : SY} (C : rl_chn u v) (e1 : xa_channelCount u' = xb_channelCount u) (e2 : xa_fill u' = xb_fill u) (e3 : xa_capacity u' = xb_capacity u) (e4 : xa_closed u' = xb_closed u) (e5 : xa_held u' = xb_held u) (e6 : ya_values v' = yb_values v) : rl_chn u' v' := by
  unfold rl_chn
  rw [e1, e2, e3, e4, e5, e6]
  exact C
