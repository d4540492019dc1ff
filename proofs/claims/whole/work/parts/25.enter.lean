/-! a new activation; a goroutine's wait forgotten -/
def rl_ev (vars : Nat → Int32) (t p : Nat) (x y : Int32) : Nat → Int32 := fun i => if 6 * t ≤ i ∧ i < 6 * t + 6 then (if i = 6 * t ∧ 0 < p then x else if i = 6 * t + 1 ∧ 1 < p then y else 0) else vars i
theorem xv_xv {u : SX} {a b : Nat → Int32} : xs_variables (xs_variables u a) b = xs_variables u b := sorry
theorem yv_yv {v : SY} {a b : Nat → Int32} : ys_vars (ys_vars v a) b = ys_vars v b := sorry
theorem xv_id {w : SX} : xs_variables w (xa_variables w) = w := sorry
theorem yv_id {w : SY} : ys_vars w (ya_vars w) = w := sorry
theorem xw_id {w : SX} : xs_slotWish w (xa_slotWish w) = w := sorry
theorem xw_xw {u : SX} {a b : Nat → Int32} : xs_slotWish (xs_slotWish u a) b = xs_slotWish u b := sorry
theorem ix6 {t i : Nat} : nI t * 6 + nI i = nI (6 * t + i) := sorry
theorem iy6 {t i : Nat} : 6 * nI t + nI i = nI (6 * t + i) := sorry
theorem ix60 {t : Nat} : nI t * 6 = nI (6 * t) := sorry
theorem xe_110 {post : SX → Prop} {w : SX} {V : Nat → Int32} {t p : Nat} {y : Int32} (ht : t < 48) (hp : p < 3) (h : ∀ V', (∀ j, V' j = if j = 6 * t + 1 ∧ 1 < p then y else V j) → post (xs_variables w V')) : cx_enter_110 post y (nI t) (nI p) (xs_variables w V) := sorry
theorem xe_loop {post : SX → Prop} {w : SX} {vars : Nat → Int32} {t f j p : Nat} {x y : Int32} (ht : t < 48) (hf : f < 30) (ej : xa_functionLine w f = nI j) (hj : j < 60) (ep : xa_argA w j = nI p) (hp : p < 3) (h : post (xs_variables w (rl_ev vars t p x y))) :
    ∀ d i V, i + d = 6 → (∀ q, V q = if 6 * t ≤ q ∧ q < 6 * t + i then 0 else vars q) → ∀ m, d < m → cx_enter_54 post (nI f) x y (nI t) m (nI i) (xs_variables w V) := sorry
def xe_w (u : SX) (g d j : Nat) : SX := xs_noteCount (xs_mode (xs_position (xs_depth u (upd (xa_depth u) g (nI (d + 1)))) (upd (xa_position u) (4 * g + d) (nI j))) (upd (xa_mode u) (4 * g + d) 0)) (upd (xa_noteCount u) (4 * g + d) 0)
theorem xe_enter {post : SX → Prop} {u : SX} {g d f j p : Nat} {x y : Int32} (hg : g < 12) (hd : d < 4) (e : xa_depth u g = nI d) (hf : f < 30) (ej : xa_functionLine u f = nI j) (hj : j < 60) (ep : xa_argA u j = nI p) (hp : p < 3)
    (h : post (xs_variables (xe_w u g d j) (rl_ev (xa_variables u) (4 * g + d) p x y))) : wpX_enter post u (nI g) (nI f) x y := sorry
theorem ye_loop57 {post : SY → Prop} {w : SY} {vars : Nat → Int32} {t p : Nat} {x y : Int32} (ht : t < 48) (hp : p < 3) (h : post (ys_panics (ys_asNote (ys_noted (ys_vars w (rl_ev vars t p x y)) (upd (ya_noted w) t 0)) (upd (ya_asNote w) t 0)) (upd (ya_panics w) t 0))) :
    ∀ d i V, i + d = 6 → (∀ q, V q = if 6 * t ≤ q ∧ q < 6 * t + i then (if q = 6 * t ∧ 0 < p then x else if q = 6 * t + 1 ∧ 1 < p then y else 0) else vars q) → ∀ m, d < m → cy_enter_57 post x y (nI t) (nI p) m (nI i) (ys_vars w V) := sorry
def ye_w (v : SY) (g d j : Nat) : SY := ys_pc (ys_depth v (upd (ya_depth v) g (nI (d + 1)))) (upd (ya_pc v) (4 * g + d) (nI j))
def ye_s (v : SY) (g d j p : Nat) (x y : Int32) : SY := ys_panics (ys_asNote (ys_noted (ys_vars (ye_w v g d j) (rl_ev (ya_vars v) (4 * g + d) p x y)) (upd (ya_noted v) (4 * g + d) 0)) (upd (ya_asNote v) (4 * g + d) 0)) (upd (ya_panics v) (4 * g + d) 0)
theorem ye_enter {post : SY → Prop} {v : SY} {n g d f : Nat} {x y : Int32} (T : sy_st v n) (hg : g < 12) (hd : d < 4) (e : ya_depth v g = nI d) (hf : f < st_f (ya_kind v) n)
    (h : ∀ j p, j < n → ya_kind v j = 0 → st_f (ya_kind v) j = f → ya_opA v j = nI p → p < 3 → post (ye_s v g d j p x y)) : wpY_enter post v (nI g) (nI f) x y := sorry
def rl_fw (sw : Nat → Int32) (g : Nat) : Nat → Int32 := fun i => if 3 * g ≤ i ∧ i < 3 * g + 3 then 0 else sw i
theorem xf_forget {post : SX → Prop} {u : SX} {g : Nat} (hg : g < 12) (h : post (xs_slotWish (xs_waitUntil u (vp_updL (xa_waitUntil u) g (-1))) (rl_fw (xa_slotWish u) g))) : wpX_forgetWait post u (nI g) := sorry
