/-! GO, SLEEP -/
def xn_1 (u : SX) (S : Nat) : SX := xs_depth (xs_status (xs_goroutineCount u (nI (S + 1))) (upd (xa_status u) S 0)) (upd (xa_depth u) S 0)
def xn_2 (u : SX) (S : Nat) : SX := xs_slotWish (xs_waitUntil (xn_1 u S) (vp_updL (xa_waitUntil u) S (-1))) (rl_fw (xa_slotWish u) S)
def xn_3 (u : SX) (S q p : Nat) (x y : Int32) : SX := xs_variables (xe_w (xn_2 u S) S 0 q) (rl_ev (xa_variables u) (4 * S + 0) p x y)
def xn_4 (u : SX) (S q p L : Nat) (x y : Int32) : SX := xs_queue (xs_queueLength (xn_3 u S q p x y) (nI (L + 1))) (upd (xa_queue u) L (nI S))
def yn_4 (v : SY) (S q p L : Nat) (x y : Int32) : SY := yr_s (ye_s (ys_started v (nI (S + 1))) S 0 q p x y) S L
theorem que_S {u : SX} {v : SY} {S : Nat} {r : Option Nat} (H : rl_que u v S r) (h : ya_status v S = 0) : rl_que u v (S + 1) r := sorry
theorem mid_new {W : Nat} {u : SX} {v : SY} {n S g j q p L : Nat} {x y : Int32} (H : rl_mid W u v n S g (j + 1)) (S12 : S < 12) (eL : xa_queueLength u = nI L) (L12 : L < 12) (hq : q < n) (kq : xa_kinds u q = 0) : rl_mid W (xn_4 u S q p L x y) (yn_4 v S q p L x y) n (S + 1) g (j + 1) := sorry
theorem xn_p {post : SX → Prop} {u : SX} {S f q p L : Nat} {x y : Int32} (S12 : S < 12) (eS : xa_goroutineCount u = nI S) (f30 : f < 30) (fl : xa_functionLine u f = nI q) (q60 : q < 60) (ep : xa_argA u q = nI p) (p3 : p < 3) (eL : xa_queueLength u = nI L) (L12 : L < 12) (h : post (xn_4 u S q p L x y)) : wpX_startGoroutine (fun r_2 u3 => wpX_enqueue post u3 r_2) u (nI f) x y := sorry
theorem ek_14 {W : Nat} {u : SX} {v : SY} {n S g j i : Nat} (E : ex_at W u v n S g j i) (k : xa_kinds u i = 14) : ex_x W u v g i := sorry
theorem xsl_id {w : SX} : xs_slotLine (xs_slotWish w (xa_slotWish w)) (xa_slotLine w) = w := sorry
theorem lN_a {s : Nat} {a : Int32} (h : ¬ a ≤ 0) : ∃ k, k < 2 ^ 31 ∧ lN s + a.toInt64 = lN (s + k) := sorry
theorem ek_28 {W : Nat} {u : SX} {v : SY} {n S g j i : Nat} (E : ex_at W u v n S g j i) (k : xa_kinds u i = 28) : ex_x (W + 1) u v g i := sorry
