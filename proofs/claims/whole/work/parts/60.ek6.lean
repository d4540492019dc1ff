/-! SELECT: both -/
theorem cm_pre {P : SX → Prop} {u : SX} {n t w : Nat} (T : sx_st u n) (hw : w < n) (k6 : xa_kinds u w = 6) (h : ∃ m, cx_communicate_25 P (nI t) (nI w) (nI (st_e (xa_kinds u) w n)) m (nI w) u) : wpX_communicate P u (nI t) (nI w) := sorry
/-- SELECT waits -/
theorem wt_sel {W : Nat} {u : SX} {v : SY} {n S g j i : Nat} {un : Int64} (E : ex_at W u v n S g j i) (k6 : xa_kinds u i = 6) (hun : (un = -1) ∨ (∃ q, q ≤ (W + 1) * 2 ^ 31 ∧ un = lN q ∧ ∃ l, l < n ∧ (st_s (xa_kinds u) l).head? = some i ∧ xa_kinds u l = 29)) :
    ∃ u' v', rl_off (W + 1) u' v' ∧ (∀ P : SX → Prop, P u' → cx_enterAlternativeOrWait_89 P (nI (4 * g + j)) (nI i) (nI (st_e (xa_kinds u) i n)) un (xp_at u (4 * g + j) (i + 1))) ∧ (∀ P : SY → Prop, P v' → wpY_pause P v (nI g) un) := sorry
theorem ek_6 {W : Nat} {u : SX} {v : SY} {n S g j i : Nat} (E0 : ex_at W u v n S g j i) (k : xa_kinds u i = 6) : ex_x (W + 1) u v g i := sorry
