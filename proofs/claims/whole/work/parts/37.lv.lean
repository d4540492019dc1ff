/-! an activation is left: both -/
theorem tm_fr {W : Nat} {u u' : SX} (t : rl_tm W u) (a : xa_waitsBegun u' = xb_waitsBegun u) (b : xa_time u' = xb_time u) : rl_tm W u' := sorry
theorem lv_note {W : Nat} {u : SX} {v : SY} {n S g j c cc : Nat} (H : rl_mid W u v n S g (j + 1)) (s : xa_state u = 1) (hm : (xa_mode u (4 * g + j) = 1 ∧ ya_panics v (4 * g + j) = 0) ∨ (xa_mode u (4 * g + j) = 2 ∧ ya_panics v (4 * g + j) = 1)) (hn : xa_noteCount u (4 * g + j) = nI (c + 1)) (c3 : c < 3) (hc : cc < 10) :
    ∃ k u' v', k ≤ 1 ∧ mv k u u' ∧ (∀ (P : SY → Prop) m, P v' → cy_leave_2 P (nI g) (m + 1) (nI cc) v) ∧ rl_out W (ya_status v) g u' v' := sorry
theorem lv_fin {W : Nat} {u : SX} {v : SY} {n S g cc : Nat} (H : rl_mid W u v n S g 1) (s : xa_state u = 1) (hm : (xa_mode u (4 * g) = 1 ∧ ya_panics v (4 * g) = 0) ∨ (xa_mode u (4 * g) = 2 ∧ ya_panics v (4 * g) = 1)) (hn : xa_noteCount u (4 * g) = nI 0) (hc : cc < 10) :
    ∃ k u' v', k ≤ 1 ∧ mv k u u' ∧ (∀ (P : SY → Prop) m, P v' → cy_leave_2 P (nI g) (m + 1) (nI cc) v) ∧ rl_out W (ya_status v) g u' v' := sorry
theorem lv_all {W n S g : Nat} : ∀ j u v c, rl_mid W u v n S g (j + 1) → xa_state u = 1 → ((xa_mode u (4 * g + j) = 1 ∧ ya_panics v (4 * g + j) = 0) ∨ (xa_mode u (4 * g + j) = 2 ∧ ya_panics v (4 * g + j) = 1)) → c + j < 10 →
    ∃ k u' v', k ≤ 200 * (j + 1) ∧ mv k u u' ∧ (∀ (P : SY → Prop) m, j + 1 < m → P v' → cy_leave_2 P (nI g) m (nI c) v) ∧ rl_out W (ya_status v) g u' v' := sorry
/-- the running goroutine comes to line p -/
theorem go_all {W : Nat} {u : SX} {v : SY} {n S g j p p' : Nat} (H : rl_mid W u v n S g (j + 1)) (s : xa_state u = 1) (hm : xa_mode u (4 * g + j) = 0) (hp : ya_panics v (4 * g + j) = 0) (hx : xa_position u (4 * g + j) = nI p) (pn : p < n) (pn' : p' < n) (pe : st_ch (xa_kinds u) n p' = st_ch (xa_kinds u) n p) :
    ∃ k u' v', k ≤ 1000 ∧ mv k u u' ∧ (∀ P : SY → Prop, P v' → wpY_goOn P v (nI g) (nI p')) ∧ rl_out W (ya_status v) g u' v' := sorry
/-- the running goroutine leaves its latest activation -/
theorem le_all {W : Nat} {u : SX} {v : SY} {n S g j : Nat} (H : rl_mid W u v n S g (j + 1)) (s : xa_state u = 1) (hm : (xa_mode u (4 * g + j) = 1 ∧ ya_panics v (4 * g + j) = 0) ∨ (xa_mode u (4 * g + j) = 2 ∧ ya_panics v (4 * g + j) = 1)) :
    ∃ k u' v', k ≤ 1000 ∧ mv k u u' ∧ (∀ P : SY → Prop, P v' → wpY_leave P v (nI g)) ∧ rl_out W (ya_status v) g u' v' := sorry
/-- the running goroutine panics -/
theorem pa_all {W : Nat} {u : SX} {v : SY} {n S g j : Nat} {x : Int32} (H : rl_mid W u v n S g (j + 1)) (s : xa_state u = 1) :
    ∃ k u' v', k ≤ 1000 ∧ mv k (xs_panicOf (xs_mode u (upd (xa_mode u) (4 * g + j) 2)) (upd (xa_panicOf u) (4 * g + j) x)) u' ∧ (∀ P : SY → Prop, P v' → wpY_panic P v (nI g) x) ∧ rl_out W (ya_status v) g u' v' := sorry
