/-! frames: what stays the same -/
def fr_sx (u u' : SX) : Prop := xa_lineCount u' = xb_lineCount u ∧ xa_kinds u' = xb_kinds u ∧ xa_argA u' = xb_argA u ∧ xa_argB u' = xb_argB u ∧ xa_argC u' = xb_argC u ∧ xa_functionCount u' = xb_functionCount u ∧ xa_blockOf u' = xb_blockOf u ∧ xa_endOf u' = xb_endOf u ∧ xa_elseOf u' = xb_elseOf u ∧ xa_functionLine u' = xb_functionLine u
theorem sx_fr {u u' : SX} {n : Nat} (f : fr_sx u u') (T : sx_st u n) : sx_st u' n := sorry
theorem fr_sx_r {u : SX} : fr_sx u u := sorry
theorem fr_sx_t {u u' u'' : SX} (a : fr_sx u u') (b : fr_sx u' u'') : fr_sx u u'' := sorry
def fr_e (k g : Nat) (a b : Nat → Int32) : Prop := ∀ i, i < k → b (k * g + i) = a (k * g + i)
theorem fr_er {k g : Nat} {a : Nat → Int32} : fr_e k g a a := sorry
theorem fr_et {k g : Nat} {a b c : Nat → Int32} (h : fr_e k g a b) (h' : fr_e k g b c) : fr_e k g a c := sorry
theorem fr_eu {k g : Nat} {a : Nat → Int32} {j : Nat} {x : Int32} (h : j < k * g ∨ k * g + k ≤ j) : fr_e k g a (upd a j x) := sorry
theorem fr_e4 {g g' j : Nat} {a : Nat → Int32} {x : Int32} (h : ¬ g' = g) (hj : j < 4) : fr_e 4 g' a (upd a (4 * g + j) x) := sorry
def fr_gx (u u' : SX) (g : Nat) : Prop := xa_status u' g = xb_status u g ∧ xa_depth u' g = xb_depth u g ∧ xa_waitUntil u' g = xb_waitUntil u g ∧ fr_e 3 g (xb_slotWish u) (xa_slotWish u') ∧ fr_e 3 g (xb_slotLine u) (xa_slotLine u') ∧ fr_e 4 g (xb_position u) (xa_position u') ∧ fr_e 4 g (xb_mode u) (xa_mode u') ∧ fr_e 4 g (xb_noteCount u) (xa_noteCount u') ∧ fr_e 12 g (xb_noteFunction u) (xa_noteFunction u') ∧ fr_e 24 g (xb_noteValues u) (xa_noteValues u') ∧ fr_e 24 g (xb_variables u) (xa_variables u')
def fr_gy (v v' : SY) (g : Nat) : Prop := ya_status v' g = yb_status v g ∧ ya_depth v' g = yb_depth v g ∧ ya_resume v' g = yb_resume v g ∧ ya_shocked v' g = yb_shocked v g ∧ ya_until v' g = yb_until v g ∧ ya_channels v' g = yb_channels v g ∧ fr_e 4 g (yb_pc v) (ya_pc v') ∧ fr_e 4 g (yb_asNote v) (ya_asNote v') ∧ fr_e 4 g (yb_panics v) (ya_panics v') ∧ fr_e 12 g (yb_noteB v) (ya_noteB v') ∧ fr_e 12 g (yb_noteC v) (ya_noteC v')
theorem fr_gx_r {u : SX} {g : Nat} : fr_gx u u g := sorry
theorem fr_gy_r {v : SY} {g : Nat} : fr_gy v v g := sorry
theorem rl_val_fr {a b : Nat → Int32} {g j : Nat} (hj : j < 4) (h : fr_e 24 g a b) {op : Int32} : rl_val b (4 * g + j) op = rl_val a (4 * g + j) op := sorry
theorem rl_wish_fr {K A B a b : Nat → Int32} {g j i : Nat} {m : Int32} (hj : j < 4) (h : fr_e 24 g a b) : rl_wish K A B b (4 * g + j) m i = rl_wish K A B a (4 * g + j) m i := sorry
theorem sl_lt {K : Nat → Int32} {n w j : Nat} (ok : ∀ j, j < n → fm_ok K j) (hj : j < n) (hd : (st_s K j).head? = some w) (hc : st_pc (K j) = true) : st_n K st_pc w j < 3 := sorry
theorem rl_slo_fr {u u' : SX} {v v' : SY} {n g j w : Nat} (f : fr_sx u u') (ok : ∀ j, j < n → fm_ok (xa_kinds u) j) (hj : j < 4) (x : fr_gx u u' g) (y : fr_gy v v' g) (H : rl_slo u v n g (4 * g + j) w) : rl_slo u' v' n g (4 * g + j) w := sorry
theorem rl_wt_fr {W : Nat} {u u' : SX} {v v' : SY} {n g d : Nat} (f : fr_sx u u') (ok : ∀ j, j < n → fm_ok (xa_kinds u) j) (d0 : 0 < d) (d4 : d ≤ 4) (x : fr_gx u u' g) (y : fr_gy v v' g) (H : rl_wt W u v n g d) : rl_wt W u' v' n g d := sorry
theorem rl_low_fr {u u' : SX} {v v' : SY} {n g d : Nat} (a2 : xa_kinds u' = xb_kinds u) (d4 : d ≤ 4) (x6 : fr_e 4 g (xb_position u) (xa_position u')) (x7 : fr_e 4 g (xb_mode u) (xa_mode u')) (y7 : fr_e 4 g (yb_pc v) (ya_pc v')) (y8 : fr_e 4 g (yb_asNote v) (ya_asNote v')) (y9 : fr_e 4 g (yb_panics v) (ya_panics v'))
    (H : rl_low u v n g d) : rl_low u' v' n g d := sorry
theorem rl_nts_fr {u u' : SX} {v v' : SY} {g d : Nat} (a6 : xa_functionCount u' = xb_functionCount u) (d4 : d ≤ 4) (x8 : fr_e 4 g (xb_noteCount u) (xa_noteCount u')) (x9 : fr_e 12 g (xb_noteFunction u) (xa_noteFunction u')) (x10 : fr_e 24 g (xb_noteValues u) (xa_noteValues u')) (y10 : fr_e 12 g (yb_noteB v) (ya_noteB v')) (y11 : fr_e 12 g (yb_noteC v) (ya_noteC v'))
    (H : rl_nts u v g d) : rl_nts u' v' g d := sorry
theorem rl_nw_fr {u u' : SX} {g : Nat} (x3 : xa_waitUntil u' g = xb_waitUntil u g) (x4 : fr_e 3 g (xb_slotWish u) (xa_slotWish u')) (H : rl_nw u g) : rl_nw u' g := sorry
theorem rl_go_fr {W : Nat} {u u' : SX} {v v' : SY} {n g : Nat} (f : fr_sx u u') (ok : ∀ j, j < n → fm_ok (xa_kinds u) j) (x : fr_gx u u' g) (y : fr_gy v v' g) (H : rl_go W u v n g) : rl_go W u' v' n g := sorry
/-- nothing but goroutine g's own changes -/
def fr_x (u u' : SX) (g : Nat) : Prop := fr_sx u u' ∧ xa_goroutineCount u' = xb_goroutineCount u ∧ xa_queueLength u' = xb_queueLength u ∧ xa_waitsBegun u' = xb_waitsBegun u ∧ xa_time u' = xb_time u ∧ xa_running u' = xb_running u ∧ xa_queue u' = xb_queue u ∧ ∀ g', ¬ g' = g → fr_gx u u' g'
def fr_y (v v' : SY) (g : Nat) : Prop := ya_queue v' = yb_queue v ∧ ya_now v' = yb_now v ∧ ya_off v' = yb_off v ∧ ∀ g', ¬ g' = g → fr_gy v v' g'
theorem mid_loc {W : Nat} {u u' : SX} {v v' : SY} {n S g d d' : Nat} (H : rl_mid W u v n S g d) (fx : fr_x u u' g) (fy : fr_y v v' g) (B : rl_base u' v') (C : rl_chn u' v') (M : rl_me u' v' n g d') : rl_mid W u' v' n S g d' := sorry
/-- the relation's plain equations, told by the second accessors -/
def rl_bb (u : SX) (v : SY) : Prop :=
  (∃ n, n ≤ 60 ∧ xb_lineCount u = nI n ∧ yb_lines v = nI n ∧ ∀ i, i < n → ln_ok (xb_kinds u i) (xb_argA u i) (xb_argB u i) (xb_argC u i)) ∧
  yb_kind v = xb_kinds u ∧ yb_opA v = xb_argA u ∧ yb_opB v = xb_argB u ∧ yb_opC v = xb_argC u ∧ yb_bad v = xb_foundLine u ∧ yb_state v = xb_state u ∧ yb_clock v = xb_time u ∧
  yb_printed v = xb_outputCount u ∧ yb_out v = xb_outputs u ∧ yb_panicValue v = xb_endingPanic u ∧ yb_made v = xb_channelCount u ∧ yb_capacity v = xb_capacity u ∧ yb_held v = xb_fill u ∧ yb_closed v = xb_closed u ∧
  yb_started v = xb_goroutineCount u ∧ yb_turn v = xb_waitsBegun u ∧ yb_queued v = xb_queueLength u ∧ yb_vars v = xb_variables u ∧ yb_noted v = xb_noteCount u ∧ yb_noteOf v = xb_noteFunction u ∧ yb_panicWith v = xb_panicOf u ∧ yb_since v = xb_waitOrder u
theorem bs_b {u : SX} {v : SY} (B : rl_base u v) : rl_bb u v := sorry
def rl_mb (u : SX) (v : SY) (n g d : Nat) : Prop := 0 < d ∧ d ≤ 4 ∧ xb_depth u g = nI d ∧ yb_depth v g = nI d ∧ rl_low u v n g d ∧ rl_nts u v g d ∧ xb_status u g = 0 ∧ yb_status v g = 1 ∧ yb_resume v g = -1 ∧ yb_shocked v g = 0 ∧ rl_nw u g
theorem me_b {u : SX} {v : SY} {n g d : Nat} (M : rl_me u v n g d) : rl_mb u v n g d := sorry
theorem chn_fr {u u' : SX} {v v' : SY} (C : rl_chn u v) (e1 : xa_channelCount u' = xb_channelCount u) (e2 : xa_fill u' = xb_fill u) (e3 : xa_capacity u' = xb_capacity u) (e4 : xa_closed u' = xb_closed u) (e5 : xa_held u' = xb_held u) (e6 : ya_values v' = yb_values v) : rl_chn u' v' := sorry
