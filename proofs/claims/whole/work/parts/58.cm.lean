/-! SEND, RECV -/
theorem ea_no {post : SX → Prop} {u : SX} {t w i : Nat} {x3 : Int32} (w60 : w < 60) (k6 : ¬ xa_kinds u w = 6) (h : wpX_offerCases (fun u5 => wpX_beginWait post u5 (nI t) (nI w) (-1)) u (nI t) (nI w) x3) : wpX_enterAlternativeOrWait post u (nI t) (nI w) x3 := sorry
theorem cm_one {P : SX → Prop} {u u0 : SX} {n t w : Nat} {r0 : Int32} (T : sx_st u n) (ht : t < 48) (hw : w < n) (kw : (xa_kinds u w = 10 ∧ ∀ P' : Int32 → SX → Prop, P' r0 u0 → wpX_trySend P' u (nI t) (nI w)) ∨ (xa_kinds u w = 11 ∧ ∀ P' : Int32 → SX → Prop, P' r0 u0 → wpX_tryReceive P' u (nI t) (nI w)))
    (h0 : r0 = 0 → P (xs_position u0 (upd (xa_position u0) t (nI (w + 1))))) (h2 : r0 = 2 → wpX_panic P u0 (nI t) (-1)) (h1 : ¬ r0 = 0 → ¬ r0 = 2 → wpX_enterAlternativeOrWait P u0 (nI t) (nI w) (nI w)) : wpX_communicate P u (nI t) (nI w) := sorry
/-- SEND or RECV waits -/
theorem wt_one {W : Nat} {w : SX} {v : SY} {n S g j i : Nat} (Hw : rl_mid W w v n S g (j + 1)) (s : xa_state w = 1) (hm : xa_mode w (4 * g + j) = 0) (hp : ya_panics v (4 * g + j) = 0) (hy : ya_pc v (4 * g + j) = nI i) (hi : i < n) (k : xa_kinds w i = 10 ∨ xa_kinds w i = 11) :
    ∃ u' v', rl_off (W + 1) u' v' ∧ (∀ P : SX → Prop, P u' → wpX_enterAlternativeOrWait P w (nI (4 * g + j)) (nI i) (nI i)) ∧ (∀ P : SY → Prop, P v' → wpY_pause P v (nI g) (-1)) := sorry
theorem at_up {W W' : Nat} {u : SX} {v : SY} {n S g j i : Nat} (h : W ≤ W') (E : ex_at W u v n S g j i) : ex_at W' u v n S g j i := sorry
theorem ek_10 {W : Nat} {u : SX} {v : SY} {n S g j i : Nat} (E0 : ex_at W u v n S g j i) (k : xa_kinds u i = 10) : ex_x (W + 1) u v g i := sorry
theorem ek_11 {W : Nat} {u : SX} {v : SY} {n S g j i : Nat} (E0 : ex_at W u v n S g j i) (k : xa_kinds u i = 11) : ex_x (W + 1) u v g i := sorry
