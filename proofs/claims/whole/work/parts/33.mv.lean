/-! X: the moves between the lines -/
def mv (k : Nat) (u u' : SX) : Prop := ∀ (P : SX → Prop) (m i : Nat), i + k ≤ 1000000 → cx_settle_2 P m (nI (i + k)) u' → cx_settle_2 P (m + k) (nI i) u
theorem mv_0 {u : SX} : mv 0 u u := sorry
theorem mv_t {k k' : Nat} {u u' u'' : SX} (a : mv k u u') (b : mv k' u' u'') : mv (k + k') u u'' := sorry
/-- the running goroutine of X -/
def xr_ok (u : SX) (g d : Nat) : Prop := xa_state u = 1 ∧ xa_running u = nI g ∧ g < 12 ∧ 0 < d ∧ d ≤ 4 ∧ xa_depth u g = nI d
theorem mv_on {u u' : SX} {g d : Nat} (h : xr_ok u g d) (hm : xa_mode u (4 * g + d - 1) = 0) (hq : ∀ Q : Int32 → SX → Prop, Q 1 u' → wpX_movedOn Q u (nI (4 * g + d - 1))) : mv 1 u u' := sorry
theorem mv_lv {u u' : SX} {g d : Nat} (h : xr_ok u g d) (hm : ¬ xa_mode u (4 * g + d - 1) = 0) (hq : ∀ Q : SX → Prop, Q u' → wpX_leave Q u (nI (4 * g + d - 1))) : mv 1 u u' := sorry
theorem mv_nx {u u' : SX} (hs : xa_state u = 1) (hr : xa_running u = -1) (hq : ∀ Q : SX → Prop, Q u' → wpX_runNext Q u) : mv 1 u u' := sorry
theorem mv_st {P : SX → Prop} {u : SX} {m i : Nat} (hi : i < 1000000) (hs : ¬ xa_state u = 1) (h : P u) : cx_settle_2 P (m + 1) (nI i) u := sorry
theorem xmo_0 {Q : Int32 → SX → Prop} {u : SX} {n t j : Nat} (T : sx_st u n) (ht : t < 48) (hp : xa_position u t = nI j) (hj : j < n) (hk : ¬ st_mk (xa_kinds u j)) (h : Q 0 u) : wpX_movedOn Q u (nI t) := sorry
theorem mv_re {P : SX → Prop} {u : SX} {n g d j m i : Nat} (hi : i < 1000000) (hx : xr_ok u g d) (T : sx_st u n) (hm : xa_mode u (4 * g + d - 1) = 0) (hp : xa_position u (4 * g + d - 1) = nI j) (hj : j < n) (hk : ¬ st_mk (xa_kinds u j)) (h : P u) : cx_settle_2 P (m + 1) (nI i) u := sorry
def xp_at (u : SX) (t j : Nat) : SX := xs_position u (upd (xa_position u) t (nI j))
theorem uu {f : Nat → Int32} {t : Nat} {a b : Int32} : upd (upd f t a) t b = upd f t b := sorry
theorem u_id {f : Nat → Int32} {t : Nat} {a : Int32} (h : f t = a) : upd f t a = f := sorry
theorem xp_xp {u : SX} {a b : Nat → Int32} : xs_position (xs_position u a) b = xs_position u b := sorry
theorem xp_id {u : SX} : xs_position u (xa_position u) = u := sorry
theorem xp_aa {u : SX} {t a b : Nat} : xp_at (xp_at u t a) t b = xp_at u t b := sorry
theorem xp_ai {u : SX} {t a : Nat} (h : xa_position u t = nI a) : xp_at u t a = u := sorry
theorem xmo_s {Q : Int32 → SX → Prop} {u : SX} {n t j o : Nat} {r : List Nat} (T : sx_st u n) (ht : t < 48) (hp : xa_position u t = nI j) (hj : j < n) (hk : xa_kinds u j = 3 ∨ st_sec (xa_kinds u j)) (e : st_s (xa_kinds u) j = o :: r) (h : Q 1 (xp_at u t (st_e (xa_kinds u) o n))) : wpX_movedOn Q u (nI t) := sorry
theorem xmo_e {Q : Int32 → SX → Prop} {u : SX} {n t j o : Nat} {r : List Nat} (T : sx_st u n) (ht : t < 48) (hp : xa_position u t = nI j) (hj : j < n) (hk : xa_kinds u j = 1) (e : st_s (xa_kinds u) j = o :: r)
    (h0 : xa_kinds u o = 0 → Q 1 (xs_mode u (upd (xa_mode u) t 1))) (h4 : xa_kinds u o = 4 → Q 1 (xp_at u t o)) (h : ¬ xa_kinds u o = 0 → ¬ xa_kinds u o = 4 → Q 1 (xp_at u t (j + 1))) : wpX_movedOn Q u (nI t) := sorry
theorem sx_at {u : SX} {n t j : Nat} (T : sx_st u n) : sx_st (xp_at u t j) n := sorry
theorem xr_at {u : SX} {g d t j : Nat} (h : xr_ok u g d) : xr_ok (xp_at u t j) g d := sorry
theorem xm_go {u : SX} {n g d : Nat} (T : sx_st u n) (hx : xr_ok u g d) (hm : xa_mode u (4 * g + d - 1) = 0) : ∀ f j, j < n → n - j ≤ f → ∃ k, k ≤ 2 * f ∧ mv k (xp_at u (4 * g + d - 1) j) (xp_at u (4 * g + d - 1) (st_ch (xa_kinds u) n j)) := sorry
