/-! the running goroutine's small changes -/
theorem nI_p (a : Nat) : nI (a + 1) - 1 = nI a := sorry
theorem mid_t {W : Nat} {u : SX} {v : SY} {n S g d : Nat} (H : rl_mid W u v n S g d) : 4 * g + d - 1 < 48 ∧ g < 12 := sorry
theorem mid_xr {W : Nat} {u : SX} {v : SY} {n S g d : Nat} (H : rl_mid W u v n S g d) (s : xa_state u = 1) : xr_ok u g d := sorry
theorem me_low {u u' : SX} {v v' : SY} {n g j : Nat} (a2 : xa_kinds u' = xb_kinds u) (H : rl_low u v n g (j + 1)) (j4 : j < 4) (x6 : ∀ i, i < j → xa_position u' (4 * g + i) = xb_position u (4 * g + i)) (x7 : ∀ i, i < j → xa_mode u' (4 * g + i) = xb_mode u (4 * g + i)) (y7 : ∀ i, i < j → ya_pc v' (4 * g + i) = yb_pc v (4 * g + i))
    (y8 : ∀ i, i < j + 1 → ya_asNote v' (4 * g + i) = yb_asNote v (4 * g + i)) (y9 : ∀ i, i < j → ya_panics v' (4 * g + i) = yb_panics v (4 * g + i)) : rl_low u' v' n g (j + 1) := sorry
theorem xm_id {u : SX} : xs_mode u (xa_mode u) = u := sorry
theorem yp_id {v : SY} : ys_pc v (ya_pc v) = v := sorry
theorem yn_id {v : SY} : ys_panics v (ya_panics v) = v := sorry
theorem mid_pos {W : Nat} {u : SX} {v : SY} {n S g j : Nat} {p : Int32} (H : rl_mid W u v n S g (j + 1)) : rl_mid W (xs_position u (upd (xa_position u) (4 * g + j) p)) v n S g (j + 1) := sorry
theorem mid_mode {W : Nat} {u : SX} {v : SY} {n S g j : Nat} {p : Int32} (H : rl_mid W u v n S g (j + 1)) : rl_mid W (xs_mode u (upd (xa_mode u) (4 * g + j) p)) v n S g (j + 1) := sorry
theorem mid_pc {W : Nat} {u : SX} {v : SY} {n S g j : Nat} {p : Int32} (H : rl_mid W u v n S g (j + 1)) : rl_mid W u (ys_pc v (upd (ya_pc v) (4 * g + j) p)) n S g (j + 1) := sorry
/-- a panic of the latest activation -/
theorem mid_pan {W : Nat} {u : SX} {v : SY} {n S g j : Nat} {x : Int32} (H : rl_mid W u v n S g (j + 1)) : rl_mid W (xs_panicOf (xs_mode u (upd (xa_mode u) (4 * g + j) 2)) (upd (xa_panicOf u) (4 * g + j) x)) (ys_panicWith (ys_panics v (upd (ya_panics v) (4 * g + j) 1)) (upd (ya_panicWith v) (4 * g + j) x)) n S g (j + 1) := sorry
/-- the latest activation ends -/
theorem mid_pop {W : Nat} {u : SX} {v : SY} {n S g j : Nat} (H : rl_mid W u v n S g (j + 2)) : rl_mid W (xs_depth u (upd (xa_depth u) g (nI (j + 1)))) (ys_depth v (upd (ya_depth v) g (nI (j + 1)))) n S g (j + 1) := sorry
/-! what the answers show -/
theorem og_low {u : SX} {v : SY} {n g d : Nat} (L : rl_low u v n g d) (h : xa_mode u (4 * g + d - 1) = 2 ↔ ¬ ya_panics v (4 * g + d - 1) = 0) : ∀ j, j < d → (xa_mode u (4 * g + j) = 2 ↔ ¬ ya_panics v (4 * g + j) = 0) := sorry
theorem og_go {W : Nat} {u : SX} {v : SY} {n g : Nat} (H : rl_go W u v n g) : rl_og u v g := sorry
theorem og_fr {u u' : SX} {v v' : SY} {g : Nat} (x : fr_gx u u' g) (y : fr_gy v v' g) (H : rl_og u v g) : rl_og u' v' g := sorry
theorem og_me {u : SX} {v : SY} {n g d : Nat} (M : rl_me u v n g d) (h : xa_mode u (4 * g + d - 1) = 2 ↔ ¬ ya_panics v (4 * g + d - 1) = 0) : rl_og u v g := sorry
/-- the end of the program shows what the relation keeps -/
theorem ob_mid {W : Nat} {u u' : SX} {v v' : SY} {n S g d : Nat} (H : rl_mid W u v n S g d) (e1 : xa_goroutineCount u' = xb_goroutineCount u) (e2 : xa_channelCount u' = xb_channelCount u) (x : ∀ g', ¬ g' = g → fr_gx u u' g') (y : ∀ g', ¬ g' = g → fr_gy v v' g') (G : rl_og u' v' g) : rl_obs u' v' := sorry
def rl_off (W : Nat) (u : SX) (v : SY) : Prop := ∃ n S, rl_co W none u v n S ∧ xa_running u = -1 ∧ ya_off v = 1 ∧ xa_state u = 1
def rl_done (u : SX) (v : SY) : Prop := rl_base u v ∧ rl_obs u v ∧ ¬ xa_state u = 1
def rl_out (W : Nat) (st : Nat → Int32) (g : Nat) (u : SX) (v : SY) : Prop := (rl_rest W u v ∧ xa_state u = 1) ∨ (rl_off W u v ∧ ya_status v = upd st g 3) ∨ rl_done u v
/-- the running goroutine stops -/
theorem co_off {W W' : Nat} {u u' : SX} {v v' : SY} {n S g d : Nat} (H : rl_mid W u v n S g d) (hW : W ≤ W') (f : fr_sx u u') (x : ∀ g', ¬ g' = g → fr_gx u u' g') (y : ∀ g', ¬ g' = g → fr_gy v v' g') (B : rl_base u' v') (C : rl_chn u' v') (e5 : xa_goroutineCount u' = xb_goroutineCount u) (Q : rl_que u' v' S none) (t : rl_tm W' u') (G : rl_go W' u' v' n g) : rl_co W' none u' v' n S := sorry
theorem que_off {u u' : SX} {v v' : SY} {S g : Nat} (H : rl_que u v S (some g)) (e1 : xa_queueLength u' = xb_queueLength u) (e2 : xa_queue u' = xb_queue u) (e3 : ya_queue v' = yb_queue v) (e4 : ∀ g', ¬ g' = g → ya_status v' g' = yb_status v g') (e5 : ¬ ya_status v' g = 1) : rl_que u' v' S none := sorry
