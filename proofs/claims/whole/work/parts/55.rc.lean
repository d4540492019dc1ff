/-! receiving -/
def h_sh (h : Nat → Int32) (e f : Nat) : Nat → Int32 := fun i => if 3 * e ≤ i ∧ i < 3 * e + f then h (i + 1) else h i
theorem xh_xh {u : SX} {a b : Nat → Int32} : xs_held (xs_held u a) b = xs_held u b := sorry
theorem xt_old {post : Int32 → SX → Prop} {u : SX} {e f : Nat} (e8 : e < 8) (f3 : f + 1 ≤ 3) (hf : xa_fill u e = nI (f + 1)) (h : post (xa_held u (3 * e)) (xs_held (xs_fill u (upd (xa_fill u) e (nI f))) (h_sh (xa_held u) e f))) : wpX_takeOldest post u (nI (e + 1)) := sorry
theorem mid_v2 {W : Nat} {u : SX} {v : SY} {n S g j p q : Nat} {x y : Int32} (H : rl_mid W u v n S g (j + 1)) (p6 : p < 6) (q6 : q < 6) : rl_mid W (xs_variables u (upd (upd (xa_variables u) (6 * (4 * g + j) + p) x) (6 * (4 * g + j) + q) y)) (ys_vars v (upd (upd (ya_vars v) (6 * (4 * g + j) + p) x) (6 * (4 * g + j) + q) y)) n S g (j + 1) := sorry
theorem xsv_p {post : Int32 → Prop} {u : SX} {b j i l : Nat} (hb : b < 12) (j4 : j < 4) (i3 : i < 3) (hd : xa_depth u b = nI (j + 1)) (sl : xa_slotLine u (3 * b + i) = nI l) (l60 : l < 60) (h : post (rl_val (xa_variables u) (4 * b + j) (xa_argB u l))) : wpX_senderValue post u (nI (3 * b + i)) := sorry
theorem iy32 {e : Nat} : (3 * nI (e + 1)) - 3 = nI (3 * e) ∧ (3 * nI (e + 1)) - 2 = nI (3 * e + 1) ∧ (3 * nI (e + 1)) - 1 = nI (3 * e + 2) := sorry
def tr_ok (W : Nat) (u : SX) (v : SY) (n S g j l : Nat) (b : Int32) : Prop :=
    ((∀ P : Int32 → SX → Prop, P 1 u → wpX_tryReceive P u (nI (4 * g + j)) (nI l)) ∧ (∀ Q : Int32 → Prop, Q 0 → wpY_canReceive Q v b)) ∨
    (∃ u' v', (∀ P : Int32 → SX → Prop, P 0 u' → wpX_tryReceive P u (nI (4 * g + j)) (nI l)) ∧ (∀ Q : Int32 → Prop, Q 1 → wpY_canReceive Q v b) ∧ (∀ R : SY → Prop, R v' → wpY_receive R v (nI g) (nI l) b) ∧ sr_ok W u u' v v' n S g j)
theorem tr_0 {W : Nat} {u : SX} {v : SY} {n S g j l e k : Nat} (H : rl_mid W u v n S g (j + 1)) (hl : l < n) (kl : xa_kinds u l = 8 ∨ xa_kinds u l = 11) (eb : rl_val (xa_variables u) (4 * g + j) (xa_argB u l) = nI (e + 1)) (k8 : k ≤ 8) (ek : xa_channelCount u = nI k) (ek' : e < k) (h1 : ¬ nI (e + 1) < 1) (h2 : ¬ nI k < nI (e + 1)) (hf : xa_fill u e = nI 0) (a5 : xa_closed u e = 0 ∨ xa_closed u e = 1) : tr_ok W u v n S g j l (nI (e + 1)) := sorry
