/-! time passes: both -/
theorem go_nw {W : Nat} {u : SX} {v : SY} {n g : Nat} (G : rl_go W u v n g) (h : ¬ xa_waitUntil u g = -1) : xa_status u g = 2 := sorry
theorem pt_of {W : Nat} {r : Option Nat} {u : SX} {v : SY} {n S : Nat} (H : rl_co W r u v n S) (hr : r = none) : pt_R (xa_waitUntil u) v (W * 2 ^ 31) S := sorry
theorem xl_wu {post : Int32 → Prop} {u : SX} {S : Nat} {e : Int64} (hS : S ≤ 12) (eS : xa_goroutineCount u = nI S) (h : post (oI (pt_b (xa_waitUntil u) (xa_waitOrder u) e S))) : wpX_longestWaitingUntil post u e := sorry
theorem yl_wu {post : SY → Prop} {v : SY} {wu : Nat → Int64} {M S i m : Nat} {e : Int64} (hi : i < 12) (hS : S ≤ 12) (R : pt_R wu v M S) (he : ¬ e = -1)
    (h0 : pt_b wu (ya_since v) e S = none → cy_passTime_77 post e m (nI (i + 1)) v) (h1 : ∀ b, pt_b wu (ya_since v) e S = some b → wpY_late (fun u8 => cy_passTime_77 post e m (nI (i + 1)) u8) v (nI b)) : cy_passTime_77 post e (m + 1) (nI i) v := sorry
theorem yl_late {post : SY → Prop} {v : SY} {n g j w f L : Nat} (T : sy_st v n) (hg : g < 12) (j4 : j < 4) (hd : ya_depth v g = nI (j + 1)) (hpc : ya_pc v (4 * g + j) = nI w) (hw : w < n) (hL : ya_queued v = nI L) (L12 : L < 12) (hf : f + 1 < n)
    (hk : (ya_kind v w = 28 ∧ f = w) ∨ (ya_kind v w = 6 ∧ f < n ∧ (st_s (ya_kind v) f).head? = some w ∧ ya_kind v f = 29)) (h : post (yr_s (ys_resume v (upd (ya_resume v) g (nI (f + 1)))) g L)) : wpY_late post v (nI g) := sorry
theorem co_wk {W : Nat} {r : Option Nat} {u : SX} {v : SY} {n S g j f L : Nat} (H : rl_co W r u v n S) (hg : g < S) (hr : ¬ some g = r) (hs : xa_status u g = 2) (hd : xa_depth u g = nI (j + 1)) (j4 : j < 4) (hL : xa_queueLength u = nI L) (L12 : L < 12) (hf : f + 1 < n) :
    rl_co W r (xw_s u g (4 * g + j) (nI (f + 1)) 0 L) (yr_s (ys_resume v (upd (ya_resume v) g (nI (f + 1)))) g L) n S := sorry
theorem xw_f {u : SX} {g t L : Nat} {p st : Int32} : xa_running (xw_s u g t p st L) = xa_running u ∧ xa_state (xw_s u g t p st L) = xa_state u ∧ xa_time (xw_s u g t p st L) = xa_time u := sorry
theorem pt_loop {W n S : Nat} {e : Int64} (hW : W * 2 ^ 31 < 2 ^ 63) (he : ¬ e = -1) : ∀ d i u v, i + d = 12 → rl_co W none u v n S →
    ∃ u' v', (∀ (P : SX → Prop) m, d < m → P u' → cx_passTime_75 P e m (nI i) u) ∧ (∀ (P : SY → Prop) m, d < m → P v' → cy_passTime_77 P e m (nI i) v) ∧ rl_co W none u' v' n S ∧ xa_running u' = xa_running u ∧ xa_state u' = xa_state u ∧ ya_off v' = ya_off v ∧ ∀ g, (ya_status v' g = 3 ↔ ya_status v g = 3) := sorry
theorem co_time {W : Nat} {u : SX} {v : SY} {n S s : Nat} (H : rl_co W none u v n S) (hs : s ≤ W * 2 ^ 31) : rl_co W none (xs_time u (lN s)) (ys_clock v (lN s)) n S := sorry
theorem pt_all {W : Nat} {u : SX} {v : SY} {n S : Nat} (H : rl_co W none u v n S) (hW : W * 2 ^ 31 < 2 ^ 63) :
    ∃ u' v', (∀ P : SX → Prop, P u' → wpX_passTime P u) ∧ (∀ P : SY → Prop, P v' → wpY_passTime P v) ∧ rl_co W none u' v' n S ∧ xa_running u' = xa_running u ∧ xa_state u' = xa_state u ∧ ya_off v' = ya_off v ∧ ∀ g, (ya_status v' g = 3 ↔ ya_status v g = 3) := sorry
