/-! sending -/
theorem mid_wake {W : Nat} {u : SX} {v : SY} {n S g d b j f L : Nat} {V : Nat → Int32} (H : rl_mid W u v n S g d) (hb : b < S) (hr : ¬ some b = some g) (hs : xa_status u b = 2) (hd : xa_depth u b = nI (j + 1)) (j4 : j < 4) (hL : xa_queueLength u = nI L) (L12 : L < 12) (hf : f + 1 < n) (hV : ∀ g', ¬ g' = b → fr_e 24 g' (xa_variables u) V) :
    rl_mid W (xw_s (xs_variables u V) b (4 * b + j) (nI (f + 1)) 0 L) (yr_s (ys_resume (ys_vars v V) (upd (ya_resume v) b (nI (f + 1)))) b L) n S g d := sorry
theorem mid_wk {W : Nat} {u : SX} {v : SY} {n S g d b j f L : Nat} (H : rl_mid W u v n S g d) (hb : b < S) (hr : ¬ some b = some g) (hs : xa_status u b = 2) (hd : xa_depth u b = nI (j + 1)) (j4 : j < 4) (hL : xa_queueLength u = nI L) (L12 : L < 12) (hf : f + 1 < n) :
    rl_mid W (xw_s u b (4 * b + j) (nI (f + 1)) 0 L) (yr_s (ys_resume v (upd (ya_resume v) b (nI (f + 1)))) b L) n S g d := sorry
theorem mid_doom {W : Nat} {u : SX} {v : SY} {n S g d b j f L : Nat} (H : rl_mid W u v n S g d) (hb : b < S) (hr : ¬ some b = some g) (hs : xa_status u b = 2) (hd : xa_depth u b = nI (j + 1)) (j4 : j < 4) (hL : xa_queueLength u = nI L) (L12 : L < 12) :
    rl_mid W (xw_s u b (4 * b + j) (nI (f + 1)) 1 L) (yr_s (ys_shocked v (upd (ya_shocked v) b 1)) b L) n S g d := sorry
/-- a channel's values -/
theorem mid_chn {W : Nat} {u : SX} {v : SY} {n S g d : Nat} {F HH VV : Nat → Int32} (H : rl_mid W u v n S g d) (C : rl_chn (xs_held (xs_fill u F) HH) (ys_values (ys_held v F) VV)) : rl_mid W (xs_held (xs_fill u F) HH) (ys_values (ys_held v F) VV) n S g d := sorry
theorem mid_cls {W : Nat} {u : SX} {v : SY} {n S g d e : Nat} (H : rl_mid W u v n S g d) : rl_mid W (xs_closed u (upd (xa_closed u) e 1)) (ys_closed v (upd (ya_closed v) e 1)) n S g d := sorry
theorem ch_c {a : Int32} {k : Nat} (k8 : k ≤ 8) : a < 1 ∨ (¬ a < 1 ∧ nI k < a) ∨ ∃ e, e < k ∧ a = nI (e + 1) ∧ ¬ a < 1 ∧ ¬ nI k < a := sorry
theorem xi_no {post : Int32 → Prop} {u : SX} {a : Int32} {k : Nat} (ek : xa_channelCount u = nI k) (h : a < 1 ∨ (¬ a < 1 ∧ nI k < a)) (p : post 0) : wpX_isChannel post u a := sorry
theorem xi_yes {post : Int32 → Prop} {u : SX} {a : Int32} {k : Nat} (ek : xa_channelCount u = nI k) (h1 : ¬ a < 1) (h2 : ¬ nI k < a) (p : post 1) : wpX_isChannel post u a := sorry
theorem yi_no {post : Int32 → Prop} {v : SY} {a : Int32} {k : Nat} (ek : ya_made v = nI k) (h : a < 1 ∨ (¬ a < 1 ∧ nI k < a)) (p : post 0) : wpY_channelAt post v a := sorry
theorem yi_yes {post : Int32 → Prop} {v : SY} {a : Int32} {k : Nat} (ek : ya_made v = nI k) (h1 : ¬ a < 1) (h2 : ¬ nI k < a) (p : post 1) : wpY_channelAt post v a := sorry
theorem iy33 {e f : Nat} : ((3 * nI (e + 1)) - 3) + nI f = nI (3 * e + f) := sorry
theorem xs_rec {post : SX → Prop} {u : SX} {b j l p q : Nat} {x f : Int32} (hb : b < 12) (j4 : j < 4) (hd : xa_depth u b = nI (j + 1)) (l60 : l < 60) (ea : xa_argA u l = nI p) (p6 : p < 6) (ec : xa_argC u l = nI q) (q6 : q < 6) (h : post (xs_variables u (upd (upd (xa_variables u) (6 * (4 * b + j) + p) x) (6 * (4 * b + j) + q) f))) : wpX_setReceived post u (nI b) (nI l) x f := sorry
theorem yg_give {post : SY → Prop} {v : SY} {b j l p q : Nat} {x f : Int32} (hb : b < 12) (j4 : j < 4) (hd : ya_depth v b = nI (j + 1)) (l60 : l < 60) (ea : ya_opA v l = nI p) (p6 : p < 6) (ec : ya_opC v l = nI q) (q6 : q < 6) (h : post (ys_vars v (upd (upd (ya_vars v) (6 * (4 * b + j) + p) x) (6 * (4 * b + j) + q) f))) : wpY_give post v (nI b) (nI l) x f := sorry
theorem V_fr {vars : Nat → Int32} {b j p q : Nat} {x f : Int32} (j4 : j < 4) (p6 : p < 6) (q6 : q < 6) : ∀ g', ¬ g' = b → fr_e 24 g' vars (upd (upd vars (6 * (4 * b + j) + p) x) (6 * (4 * b + j) + q) f) := sorry
/-- the arguments of a line that receives -/
theorem ln_rc {u : SX} {n l : Nat} (T : sx_st u n) (hl : l < n) (k : xa_kinds u l = 8 ∨ xa_kinds u l = 11) : ∃ p q, p < 6 ∧ xa_argA u l = nI p ∧ q < 6 ∧ xa_argC u l = nI q := sorry
/-- what an attempt leaves as it was -/
def sr_ok (W : Nat) (u u' : SX) (v v' : SY) (n S g j : Nat) : Prop := rl_mid W u' v' n S g (j + 1) ∧ xa_state u' = xa_state u ∧ xa_mode u' (4 * g + j) = xa_mode u (4 * g + j) ∧ ya_panics v' (4 * g + j) = ya_panics v (4 * g + j) ∧ xa_kinds u' = xa_kinds u
theorem ts_all {W : Nat} {u : SX} {v : SY} {n S g j l : Nat} {a b : Int32} (H : rl_mid W u v n S g (j + 1)) (hl : l < n) (ea : rl_val (xa_variables u) (4 * g + j) (xa_argA u l) = a) (eb : rl_val (xa_variables u) (4 * g + j) (xa_argB u l) = b) :
    ((∀ P : Int32 → SX → Prop, P 1 u → wpX_trySend P u (nI (4 * g + j)) (nI l)) ∧ (∀ Q : Int32 → Prop, Q 0 → wpY_canSend Q v a)) ∨
    ((∀ P : Int32 → SX → Prop, P 2 u → wpX_trySend P u (nI (4 * g + j)) (nI l)) ∧ (∀ Q : Int32 → Prop, Q 1 → wpY_canSend Q v a) ∧ (∀ R : Int32 → SY → Prop, R 0 v → wpY_send R v a b)) ∨
    (∃ u' v', (∀ P : Int32 → SX → Prop, P 0 u' → wpX_trySend P u (nI (4 * g + j)) (nI l)) ∧ (∀ Q : Int32 → Prop, Q 1 → wpY_canSend Q v a) ∧ (∀ R : Int32 → SY → Prop, R 1 v' → wpY_send R v a b) ∧ sr_ok W u u' v v' n S g j) := sorry
