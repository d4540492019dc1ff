/-! coming to a line; leaving an activation -/
theorem sy_bs {u : SX} {v : SY} {n : Nat} (B : rl_base u v) (T : sx_st u n) : sy_st v n := sorry
theorem go_core {W : Nat} {u : SX} {v : SY} {n S g j p : Nat} (H : rl_mid W u v n S g (j + 1)) (s : xa_state u = 1) (hm : xa_mode u (4 * g + j) = 0) (hp : ya_panics v (4 * g + j) = 0) (hx : xa_position u (4 * g + j) = nI p) (pn : p < n) :
    ∃ k u1, k ≤ 121 ∧ mv k u u1 ∧ xa_state u1 = 1 ∧ st_ch (xa_kinds u) n p < n ∧ ((¬ xa_kinds u (st_ch (xa_kinds u) n p) = 1 ∧ rl_rest W u1 (ys_pc v (upd (ya_pc v) (4 * g + j) (nI (st_ch (xa_kinds u) n p))))) ∨ (xa_kinds u (st_ch (xa_kinds u) n p) = 1 ∧ rl_mid W u1 (ys_pc v (upd (ya_pc v) (4 * g + j) (nI (st_ch (xa_kinds u) n p)))) n S g (j + 1) ∧ xa_mode u1 (4 * g + j) = 1)) := sorry
theorem st_nx {K : Nat → Int32} {n i : Nat} (W : st_wf K n) (hi : i < n) (h : ¬ K i = 1) : i + 1 < n := sorry
theorem xl_pop {Q : SX → Prop} {u : SX} {g j : Nat} (hg : g < 12) (hj : j + 2 ≤ 4) (hr : xa_running u = nI g) (hd : xa_depth u g = nI (j + 2)) (hn : xa_noteCount u (4 * g + j + 1) = nI 0)
    (h2 : xa_mode u (4 * g + j + 1) = 2 → Q (xs_panicOf (xs_mode (xs_depth u (upd (xa_depth u) g (nI (j + 1)))) (upd (xa_mode u) (4 * g + j) 2)) (upd (xa_panicOf u) (4 * g + j) (xa_panicOf u (4 * g + j + 1)))))
    (h1 : ¬ xa_mode u (4 * g + j + 1) = 2 → Q (xs_depth u (upd (xa_depth u) g (nI (j + 1))))) : wpX_leave Q u (nI (4 * g + j + 1)) := sorry
theorem xl_fin {Q : SX → Prop} {u : SX} {g : Nat} (hg : g < 12) (hr : xa_running u = nI g) (hd : xa_depth u g = nI 1) (hn : xa_noteCount u (4 * g) = nI 0)
    (h3 : xa_mode u (4 * g) = 2 → Q (xs_status (xs_running (xs_endingPanic (xs_state (xs_depth u (upd (xa_depth u) g (nI 0))) 3) (xa_panicOf u (4 * g))) (-1)) (upd (xa_status u) g 3)))
    (h2 : ¬ xa_mode u (4 * g) = 2 → g = 0 → Q (xs_status (xs_running (xs_state (xs_depth u (upd (xa_depth u) g (nI 0))) 2) (-1)) (upd (xa_status u) g 3)))
    (h1 : ¬ xa_mode u (4 * g) = 2 → ¬ g = 0 → Q (xs_status (xs_running (xs_depth u (upd (xa_depth u) g (nI 0))) (-1)) (upd (xa_status u) g 3))) : wpX_leave Q u (nI (4 * g)) := sorry
theorem yl_fin {P : SY → Prop} {v : SY} {g c m : Nat} (hg : g < 12) (hc : c < 10) (hd : ya_depth v g = nI 1) (hn : ya_noted v (4 * g) = nI 0)
    (h3 : ¬ ya_panics v (4 * g) = 0 → P (ys_status (ys_panicValue (ys_off (ys_state (ys_depth v (upd (ya_depth v) g (nI 0))) 3) 1) (ya_panicWith v (4 * g))) (upd (ya_status v) g 3)))
    (h2 : ya_panics v (4 * g) = 0 → g = 0 → P (ys_status (ys_off (ys_state (ys_depth v (upd (ya_depth v) g (nI 0))) 2) 1) (upd (ya_status v) g 3)))
    (h1 : ya_panics v (4 * g) = 0 → ¬ g = 0 → P (ys_status (ys_off (ys_depth v (upd (ya_depth v) g (nI 0))) 1) (upd (ya_status v) g 3))) : cy_leave_2 P (nI g) (m + 1) (nI c) v := sorry
theorem yl_pop {P : SY → Prop} {v : SY} {n g j c m : Nat} (T : sy_st v n) (hg : g < 12) (hj : j + 2 ≤ 4) (hc : c < 10) (hd : ya_depth v g = nI (j + 2)) (hn : ya_noted v (4 * g + j + 1) = nI 0)
    (hp : ¬ ya_panics v (4 * g + j + 1) = 0 → cy_leave_2 P (nI g) m (nI (c + 1)) (ys_panicWith (ys_panics (ys_depth v (upd (ya_depth v) g (nI (j + 1)))) (upd (ya_panics v) (4 * g + j) 1)) (upd (ya_panicWith v) (4 * g + j) (ya_panicWith v (4 * g + j + 1)))))
    (ha : ya_panics v (4 * g + j + 1) = 0 → ¬ ya_asNote v (4 * g + j + 1) = 0 → cy_leave_2 P (nI g) m (nI (c + 1)) (ys_depth v (upd (ya_depth v) g (nI (j + 1)))))
    (hr : ya_panics v (4 * g + j + 1) = 0 → ya_asNote v (4 * g + j + 1) = 0 → ∃ p, p + 1 < n ∧ ya_pc v (4 * g + j) = nI p ∧ st_ch (ya_kind v) n (p + 1) < n ∧
      (ya_kind v (st_ch (ya_kind v) n (p + 1)) = 1 → cy_leave_2 P (nI g) m (nI (c + 1)) (ys_pc (ys_depth v (upd (ya_depth v) g (nI (j + 1)))) (upd (ya_pc v) (4 * g + j) (nI (st_ch (ya_kind v) n (p + 1)))))) ∧
      (¬ ya_kind v (st_ch (ya_kind v) n (p + 1)) = 1 → P (ys_pc (ys_depth v (upd (ya_depth v) g (nI (j + 1)))) (upd (ya_pc v) (4 * g + j) (nI (st_ch (ya_kind v) n (p + 1))))))) : cy_leave_2 P (nI g) (m + 1) (nI c) v := sorry
