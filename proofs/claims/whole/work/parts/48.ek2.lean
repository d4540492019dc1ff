/-! the lines that set, note, leave -/
theorem at_e {W : Nat} {u : SX} {v : SY} {n S g j i : Nat} (E : ex_at W u v n S g j i) : ya_kind v = xa_kinds u ∧ ya_opA v = xa_argA u ∧ rl_val (ya_vars v) (4 * g + j) (ya_opA v i) = rl_val (xa_variables u) (4 * g + j) (xa_argA u i) ∧ rl_val (ya_vars v) (4 * g + j) (ya_opB v i) = rl_val (xa_variables u) (4 * g + j) (xa_argB u i) ∧ rl_val (ya_vars v) (4 * g + j) (ya_opC v i) = rl_val (xa_variables u) (4 * g + j) (xa_argC u i) := sorry
/-- the state once the line has been left, as a variable -/
theorem at_g {W : Nat} {u : SX} {v : SY} {n S g j i : Nat} (E : ex_at W u v n S g j i) : ∃ w, xs_position u (upd (xa_position u) (4 * g + j) (nI (i + 1))) = w ∧ rl_mid W w v n S g (j + 1) ∧ xa_state w = 1 ∧ xa_mode w (4 * g + j) = 0 ∧ xa_position w (4 * g + j) = nI (i + 1) ∧ xa_kinds w = xa_kinds u ∧ xa_argA w = xa_argA u ∧ xa_argB w = xa_argB u ∧ xa_argC w = xa_argC u ∧ xa_variables w = xa_variables u := sorry
/-- a variable is set and the line has been executed -/
theorem ex_var {W : Nat} {w : SX} {v : SY} {n S g j p q : Nat} {x : Int32} {A : (SX → Prop) → Prop} {B : (SY → Prop) → Prop} (H : rl_mid W w v n S g (j + 1)) (s : xa_state w = 1) (hm : xa_mode w (4 * g + j) = 0) (hp : ya_panics v (4 * g + j) = 0) (pw : xa_position w (4 * g + j) = nI q) (qn : q < n) (p6 : p < 6)
    (hA : ∀ P : SX → Prop, P (xs_variables w (upd (xa_variables w) (6 * (4 * g + j) + p) x)) → A P) (hB : ∀ P : SY → Prop, wpY_goOn P (ys_vars v (upd (ya_vars v) (6 * (4 * g + j) + p) x)) (nI g) (nI q) → B P) : ex_r W A B := sorry
/-- what the lines that set a variable need -/
theorem at_p {W : Nat} {u : SX} {v : SY} {n S g j i : Nat} (E : ex_at W u v n S g j i) (sets : ln_set (xa_kinds u i)) : ∃ p, p < 6 ∧ xa_argA u i = nI p ∧ ya_opA v i = nI p := sorry
theorem ek_21 {W : Nat} {u : SX} {v : SY} {n S g j i : Nat} (E : ex_at W u v n S g j i) (k : xa_kinds u i = 21) : ex_x W u v g i := sorry
theorem ek_22 {W : Nat} {u : SX} {v : SY} {n S g j i : Nat} (E : ex_at W u v n S g j i) (k : xa_kinds u i = 22) : ex_x W u v g i := sorry
theorem ek_23 {W : Nat} {u : SX} {v : SY} {n S g j i : Nat} (E : ex_at W u v n S g j i) (k : xa_kinds u i = 23) : ex_x W u v g i := sorry
theorem ek_24 {W : Nat} {u : SX} {v : SY} {n S g j i : Nat} (E : ex_at W u v n S g j i) (k : xa_kinds u i = 24) : ex_x W u v g i := sorry
theorem pl_0 {P : SY → Prop} {G : SY → Prop} {v : SY} {g : Nat} {x : Int32} (q : wpY_panic P v (nI g) x) : wpY_panic (fun w => ((0 : Int32) = 0 → P w) ∧ (¬ (0 : Int32) = 0 → G w)) v (nI g) x := sorry
theorem ek_25 {W : Nat} {u : SX} {v : SY} {n S g j i : Nat} (E : ex_at W u v n S g j i) (k : xa_kinds u i = 25) : ex_x W u v g i := sorry
theorem ek_26 {W : Nat} {u : SX} {v : SY} {n S g j i : Nat} (E : ex_at W u v n S g j i) (k : xa_kinds u i = 26) : ex_x W u v g i := sorry
theorem ek_27 {W : Nat} {u : SX} {v : SY} {n S g j i : Nat} (E : ex_at W u v n S g j i) (k : xa_kinds u i = 27) : ex_x W u v g i := sorry
theorem ek_c {W : Nat} {u : SX} {v : SY} {n S g j i : Nat} (E : ex_at W u v n S g j i) (k : xa_kinds u i = 21 ∨ xa_kinds u i = 22 ∨ xa_kinds u i = 23 ∨ xa_kinds u i = 24 ∨ xa_kinds u i = 25 ∨ xa_kinds u i = 26 ∨ xa_kinds u i = 27) : ex_x W u v g i := sorry
theorem ek_17 {W : Nat} {u : SX} {v : SY} {n S g j i : Nat} (E : ex_at W u v n S g j i) (k : xa_kinds u i = 17) : ex_x W u v g i := sorry
theorem ek_18 {W : Nat} {u : SX} {v : SY} {n S g j i : Nat} (E : ex_at W u v n S g j i) (k : xa_kinds u i = 18) : ex_x W u v g i := sorry
theorem ek_20 {W : Nat} {u : SX} {v : SY} {n S g j i : Nat} (E : ex_at W u v n S g j i) (k : xa_kinds u i = 20) : ex_x W u v g i := sorry
theorem ek_16 {W : Nat} {u : SX} {v : SY} {n S g j i : Nat} (E : ex_at W u v n S g j i) (k : xa_kinds u i = 16) : ex_x W u v g i := sorry
theorem yc_pv {v : SY} {a b : Nat → Int32} : ys_panics (ys_vars v a) b = ys_vars (ys_panics v b) a := sorry
/-- the panic below is recovered -/
theorem mid_rec {W : Nat} {u : SX} {v : SY} {n S g j : Nat} (H : rl_mid W u v n S g (j + 2)) (ha : ya_asNote v (4 * g + j + 1) = 1) : rl_mid W (xs_mode u (upd (xa_mode u) (4 * g + j) 1)) (ys_panics v (upd (ya_panics v) (4 * g + j) 0)) n S g (j + 2) := sorry
theorem ek_19 {W : Nat} {u : SX} {v : SY} {n S g j i : Nat} (E : ex_at W u v n S g j i) (k : xa_kinds u i = 19) : ex_x W u v g i := sorry
