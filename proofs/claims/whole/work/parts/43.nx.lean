/-! the next goroutine: both -/
theorem nx_ready {W : Nat} {u : SX} {v : SY} {n S g j L : Nat} (H : rl_co W none u v n S) (hg : g < S) (j4 : j < 4) (e1 : xa_depth u g = nI (j + 1)) (e2 : ya_depth v g = nI (j + 1)) (h1 : rl_low u v n g (j + 1)) (h2 : rl_nts u v g (j + 1)) (h5 : rl_nw u g) (sx : xa_status u g = 0) (sy : ya_status v g = 1) (sh : ya_shocked v g = 0) (eL : xa_queueLength u = nI (L + 1))
    (Q : rl_que (xs_running (xs_queue (xs_queueLength u (nI L)) (q_sh (xa_queue u) L)) (nI g)) (ys_resume (ys_queue (ys_off (ys_now (ys_queued v (nI L)) (nI g)) 0) (q_sh (ya_queue v) L)) (upd (ya_resume v) g (-1))) S (some g)) :
    rl_mid W (xs_running (xs_queue (xs_queueLength u (nI L)) (q_sh (xa_queue u) L)) (nI g)) (ys_resume (ys_queue (ys_off (ys_now (ys_queued v (nI L)) (nI g)) 0) (q_sh (ya_queue v) L)) (upd (ya_resume v) g (-1))) n S g (j + 1) := sorry
theorem nx_doom {W : Nat} {u : SX} {v : SY} {n S g j L : Nat} (H : rl_co W none u v n S) (hg : g < S) (j4 : j < 4) (e1 : xa_depth u g = nI (j + 1)) (e2 : ya_depth v g = nI (j + 1)) (h1 : rl_low u v n g (j + 1)) (h2 : rl_nts u v g (j + 1)) (h5 : rl_nw u g) (sy : ya_status v g = 1) (eL : xa_queueLength u = nI (L + 1))
    (Q : rl_que (xs_status (xs_running (xs_queue (xs_queueLength u (nI L)) (q_sh (xa_queue u) L)) (nI g)) (upd (xa_status u) g 0)) (ys_shocked (ys_resume (ys_queue (ys_off (ys_now (ys_queued v (nI L)) (nI g)) 0) (q_sh (ya_queue v) L)) (upd (ya_resume v) g (-1))) (upd (ya_shocked v) g 0)) S (some g)) :
    rl_mid W (xs_status (xs_running (xs_queue (xs_queueLength u (nI L)) (q_sh (xa_queue u) L)) (nI g)) (upd (xa_status u) g 0)) (ys_shocked (ys_resume (ys_queue (ys_off (ys_now (ys_queued v (nI L)) (nI g)) 0) (q_sh (ya_queue v) L)) (upd (ya_resume v) g (-1))) (upd (ya_shocked v) g 0)) n S g (j + 1) := sorry
def rl_res (W c : Nat) (u : SX) (v : SY) : Prop := (rl_rest W u v ∧ xa_state u = 1) ∨ (rl_off W u v ∧ ct (ya_status v) 12 < c) ∨ rl_done u v
theorem res_out {W g : Nat} {st : Nat → Int32} {u : SX} {v : SY} (hg : g < 12) (h : ¬ st g = 3) (H : rl_out W st g u v) : rl_res W (ct st 12) u v := sorry
theorem yn_end {P : SY → Prop} {w : SY} {g L m : Nat} (hg : g < 12) (hL : ya_queued w = nI L) (L12 : L < 12) (hn : ya_now w = nI g) (h0 : ya_shocked w g = 0 → ya_resume w g < 0 → P (ys_resume w (upd (ya_resume w) g (-1)))) (h1 : ya_shocked w g = 0 → ¬ ya_resume w g < 0 → wpY_goOn P (ys_resume w (upd (ya_resume w) g (-1))) (nI g) (ya_resume w g))
    (h2 : ¬ ya_shocked w g = 0 → wpY_panic P (ys_shocked (ys_resume w (upd (ya_resume w) g (-1))) (upd (ya_shocked w) g 0)) (nI g) (-1)) : cy_next_51 P (m + 1) (nI L) w := sorry
theorem nx_11 {W : Nat} {u : SX} {v : SY} {n S : Nat} (H : rl_co W none u v n S) (s : xa_state u = 1) :
    ∃ k u1 u' v', k ≤ 1000 ∧ (∀ Q : SX → Prop, Q u1 → cx_runNext_11 Q u) ∧ mv k u1 u' ∧ (∀ P : SY → Prop, P v' → cy_next_11 P v) ∧ rl_res W (ct (ya_status v) 12) u' v' := sorry
theorem nx_all {W : Nat} {u : SX} {v : SY} (H : rl_off W u v) (hW : W * 2 ^ 31 < 2 ^ 63) :
    ∃ k u' v', k ≤ 1001 ∧ mv k u u' ∧ (∀ P : SY → Prop, P v' → wpY_next P v) ∧ rl_res W (ct (ya_status v) 12) u' v' := sorry
/-- what a step ends with -/
def rl_fin (W : Nat) (u : SX) (v : SY) : Prop := (rl_rest W u v ∧ xa_state u = 1) ∨ rl_done u v
theorem nx_loop {W : Nat} (hW : W * 2 ^ 31 < 2 ^ 63) : ∀ c u v i, rl_res W c u v → i + c ≤ 29 →
    ∃ k u' v', k ≤ 1001 * c ∧ mv k u u' ∧ (∀ (post : Int32 → SY → Prop) (J : Int32 → SY → Prop) (x1 : Int32) (x2 : Nat) m, c < m → J (nI (x2 + 1)) v' → cy_run_58 post J x1 (nI x2) m (nI i) v) ∧ rl_fin W u' v' := sorry
