/-! UNSET: X's pass -/
theorem ss_ss {u : SX} {s s' : Nat → Int32} : xs_surelySet (xs_surelySet u s) s' = xs_surelySet u s' := sorry
theorem ss_0 {u : SX} : u = xs_surelySet u (xa_surelySet u) := sorry
def un_SX (S : Nat → Int32) (x : Nat → Nat) (n : Nat) : Prop := ∀ t, t < n → S t = nI (127 - x t) ∧ x t < 128
def un_up (x : Nat → Nat) (m o : Nat) : Nat → Nat := fun t => if t = m then x t ||| o else x t
theorem un_up_t {x : Nat → Nat} {m o t b : Nat} : (un_up x m o t).testBit b = true ↔ (x t).testBit b = true ∨ (t = m ∧ o.testBit b = true) := sorry
theorem un_dm : ∀ a, a < 128 → ∀ b, b < 128 → (127 - a) &&& (127 - b) = 127 - (a ||| b) := sorry
theorem un_SX_up {S : Nat → Int32} {x : Nat → Nat} {n m o : Nat} (h : un_SX S x n) (hm : m < n) (ho : o < 128) : un_SX (upd S m (S m &&& nI (127 - o))) (un_up x m o) n := sorry
/-- the state's values after what line i passes on -/
def un_XS (K A C : Nat → Int32) (n i w : Nat) (x x' : Nat → Nat) : Prop := ∀ t, t < n → ∀ b, (x' t).testBit b = true ↔ (x t).testBit b = true ∨ ∃ o, un_X K A C n i w t o ∧ o.testBit b = true
theorem xr_37 {post : SX → Prop} {u : SX} {S : Nat → Int32} {x : Nat → Nat} {n m o : Nat} (n60 : n ≤ 60) (hS : un_SX S x n) (hm : m < n) (ho : o < 128) (h : ∀ S', un_SX S' (un_up x m o) n → post (xs_surelySet u S')) : cx_reach_37 post (nI (127 - o)) (nI m) (xs_surelySet u S) := sorry
theorem xr_170 {post : SX → Prop} {u : SX} {S : Nat → Int32} {x : Nat → Nat} {n m o : Nat} (n60 : n ≤ 60) (hS : un_SX S x n) (hm : m < n) (ho : o < 128) (h : ∀ S', un_SX S' (un_up x m o) n → post (xs_surelySet u S')) : cx_passOn_170 post (nI (127 - o)) (nI m) (xs_surelySet u S) := sorry
theorem xr_reach {post : SX → Prop} {u : SX} {S : Nat → Int32} {x : Nat → Nat} {n j o : Nat} (T : sx_st u n) (hS : un_SX S x n) (hj : j < n) (ho : o < 128) (h : ∀ S', un_SX S' (un_up x (un_xn (xa_kinds u) n j) o) n → post (xs_surelySet u S')) : wpX_reach post (xs_surelySet u S) (nI j) (nI (127 - o)) := sorry
theorem xr_secs {post : SX → Prop} {u : SX} {n i o : Nat} (T : sx_st u n) (hi : i < n) (k6 : xa_kinds u i = 6) (ho : o < 128) {x : Nat → Nat} (h : ∀ S' x', un_SX S' x' n → (∀ t, t < n → ∀ b, (x' t).testBit b = true ↔ (x t).testBit b = true ∨ (un_pt (xa_kinds u) i t ∧ o.testBit b = true)) → post (xs_surelySet u S')) :
    ∀ d j S x', j + d = st_e (xa_kinds u) i n → i < j → un_SX S x' n → (∀ t, t < n → ∀ b, (x' t).testBit b = true ↔ (x t).testBit b = true ∨ (t < j ∧ un_pt (xa_kinds u) i t ∧ o.testBit b = true)) → ∀ m, d < m → cx_reachSections_4 post (nI i) (nI (127 - o)) m (nI j) (xs_surelySet u S) := sorry
theorem xr_pass {post : SX → Prop} {u : SX} {S : Nat → Int32} {x : Nat → Nat} {n i w : Nat} (T : sx_st u n) (hS : un_SX S x n) (hi : i < n)
    (h : ∀ S' x', un_SX S' x' n → un_XS (xa_kinds u) (xa_argA u) (xa_argC u) n i w x x' → post (xs_surelySet u S')) : wpX_passOn post (xs_surelySet u S) (nI i) (nI (127 - un_o (xa_kinds u) (xa_argA u) (xa_argC u) i w)) := sorry
