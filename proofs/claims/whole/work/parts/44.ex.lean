/-! a line is executed: what the parts of it give -/
theorem rl_mid_up {W W' : Nat} {u : SX} {v : SY} {n S g d : Nat} (h : W ≤ W') (H : rl_mid W u v n S g d) : rl_mid W' u v n S g d := sorry
def ex_r (W : Nat) (A : (SX → Prop) → Prop) (B : (SY → Prop) → Prop) : Prop := ∃ k u1 u2 v', k ≤ 1000 ∧ (∀ P : SX → Prop, P u1 → A P) ∧ mv k u1 u2 ∧ (∀ P : SY → Prop, P v' → B P) ∧ rl_res W 13 u2 v'
theorem res_up {W c c' : Nat} {u : SX} {v : SY} (h : c ≤ c') (H : rl_res W c u v) : rl_res W c' u v := sorry
theorem res_13 {W g : Nat} {st : Nat → Int32} {u : SX} {v : SY} (hg : g < 12) (h : st g = 1) (H : rl_out W st g u v) : rl_res W 13 u v := sorry
theorem ex_go {W : Nat} {u : SX} {v : SY} {n S g j p p' : Nat} {A : (SX → Prop) → Prop} {B : (SY → Prop) → Prop} (H : rl_mid W u v n S g (j + 1)) (s : xa_state u = 1) (hm : xa_mode u (4 * g + j) = 0) (hp : ya_panics v (4 * g + j) = 0) (hx : xa_position u (4 * g + j) = nI p) (pn : p < n) (pn' : p' < n) (pe : st_ch (xa_kinds u) n p' = st_ch (xa_kinds u) n p)
    (hA : ∀ P : SX → Prop, P u → A P) (hB : ∀ P : SY → Prop, wpY_goOn P v (nI g) (nI p') → B P) : ex_r W A B := sorry
theorem ex_le {W : Nat} {u : SX} {v : SY} {n S g j : Nat} {A : (SX → Prop) → Prop} {B : (SY → Prop) → Prop} (H : rl_mid W u v n S g (j + 1)) (s : xa_state u = 1) (hm : (xa_mode u (4 * g + j) = 1 ∧ ya_panics v (4 * g + j) = 0) ∨ (xa_mode u (4 * g + j) = 2 ∧ ya_panics v (4 * g + j) = 1))
    (hA : ∀ P : SX → Prop, P u → A P) (hB : ∀ P : SY → Prop, wpY_leave P v (nI g) → B P) : ex_r W A B := sorry
theorem ex_pa {W : Nat} {u : SX} {v : SY} {n S g j : Nat} {x : Int32} {A : (SX → Prop) → Prop} {B : (SY → Prop) → Prop} (H : rl_mid W u v n S g (j + 1)) (s : xa_state u = 1)
    (hA : ∀ P : SX → Prop, wpX_panic P u (nI (4 * g + j)) x → A P) (hB : ∀ P : SY → Prop, wpY_panic P v (nI g) x → B P) : ex_r W A B := sorry
theorem xv_val {post : Int32 → Prop} {u : SX} {t : Nat} {op : Int32} (ht : t < 48) (h : post (rl_val (xa_variables u) t op)) : wpX_valueOf post u (nI t) op := sorry
theorem yv_val {post : Int32 → Prop} {v : SY} {g j : Nat} {op : Int32} (hg : g < 12) (j4 : j < 4) (hd : ya_depth v g = nI (j + 1)) (h : post (rl_val (ya_vars v) (4 * g + j) op)) : wpY_value post v (nI g) op := sorry
theorem ys_set {post : SY → Prop} {v : SY} {g j p : Nat} {x : Int32} (hg : g < 12) (j4 : j < 4) (hd : ya_depth v g = nI (j + 1)) (hp : p < 6) (h : post (ys_vars v (upd (ya_vars v) (6 * (4 * g + j) + p) x))) : wpY_set post v (nI g) (nI p) x := sorry
theorem fr_e24 {g g' i : Nat} {a : Nat → Int32} {x : Int32} (h : ¬ g' = g) (hi : i < 24) : fr_e 24 g' a (upd a (24 * g + i) x) := sorry
theorem ix24 {g j p : Nat} : 6 * (4 * g + j) + p = 24 * g + (6 * j + p) := sorry
/-- a variable of the latest activation is set -/
theorem mid_var {W : Nat} {u : SX} {v : SY} {n S g j p : Nat} {x : Int32} (H : rl_mid W u v n S g (j + 1)) (hp : p < 6) : rl_mid W (xs_variables u (upd (xa_variables u) (6 * (4 * g + j) + p) x)) (ys_vars v (upd (ya_vars v) (6 * (4 * g + j) + p) x)) n S g (j + 1) := sorry
theorem xc_set {post : SX → Prop} {u : SX} {t i p : Nat} {x : Int32} (ht : t < 48) (hi : i < 60) (ea : xa_argA u i = nI p) (hp : p < 6) (h : post (xs_variables u (upd (xa_variables u) (6 * t + p) x))) : vp_in (nI i) 60 ∧ (vp_in ((nI t * 6) + (xa_argA u (nI i).toNatClampNeg)) 288 ∧ ∀ a, a = upd (xa_variables u) ((nI t * 6) + (xa_argA u (nI i).toNatClampNeg)).toNatClampNeg x → post (xs_variables u a)) := sorry
/-- printing -/
theorem mid_out {W : Nat} {u : SX} {v : SY} {n S g d : Nat} {c : Int32} {o : Nat → Int32} (H : rl_mid W u v n S g d) : rl_mid W (xs_outputs (xs_outputCount u c) o) (ys_out (ys_printed v c) o) n S g d := sorry
/-- a call is noted -/
theorem mid_note {W : Nat} {u : SX} {v : SY} {n S g j c f : Nat} {x y : Int32} (H : rl_mid W u v n S g (j + 1)) (hc : xa_noteCount u (4 * g + j) = nI c) (c3 : c < 3) (hf : f < 30) (ff : nI f < xa_functionCount u) :
    rl_mid W (xs_noteValues (xs_noteFunction (xs_noteCount u (upd (xa_noteCount u) (4 * g + j) (nI (c + 1)))) (upd (xa_noteFunction u) (3 * (4 * g + j) + c) (nI f))) (upd (upd (xa_noteValues u) (2 * (3 * (4 * g + j) + c)) x) (2 * (3 * (4 * g + j) + c) + 1) y))
      (ys_noteC (ys_noteB (ys_noteOf (ys_noted v (upd (ya_noted v) (4 * g + j) (nI (c + 1)))) (upd (ya_noteOf v) (3 * (4 * g + j) + c) (nI f))) (upd (ya_noteB v) (3 * (4 * g + j) + c) x)) (upd (ya_noteC v) (3 * (4 * g + j) + c) y)) n S g (j + 1) := sorry
