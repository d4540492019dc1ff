/-! MAKE, CALL, GO, SLEEP -/
theorem mid_make {W : Nat} {u : SX} {v : SY} {n S g d c b : Nat} (H : rl_mid W u v n S g d) (ec : xa_channelCount u = nI c) (c8 : c < 8) (b4 : b < 4) : rl_mid W (xs_closed (xs_fill (xs_capacity (xs_channelCount u (nI (c + 1))) (upd (xa_capacity u) c (nI b))) (upd (xa_fill u) c 0)) (upd (xa_closed u) c 0)) (ys_closed (ys_held (ys_capacity (ys_made v (nI (c + 1))) (upd (ya_capacity v) c (nI b))) (upd (ya_held v) c 0)) (upd (ya_closed v) c 0)) n S g d := sorry
theorem ek_13 {W : Nat} {u : SX} {v : SY} {n S g j i : Nat} (E : ex_at W u v n S g j i) (k : xa_kinds u i = 13) : ex_x W u v g i := sorry
theorem fn_line {u : SX} {n i : Nat} (T : sx_st u n) (hi : i < n) (go : ln_go (xa_kinds u i)) : ∃ f q p, f < 30 ∧ xa_argA u i = nI f ∧ f < st_f (xa_kinds u) n ∧ q < n ∧ xa_kinds u q = 0 ∧ st_f (xa_kinds u) q = f ∧ xa_functionLine u f = nI q ∧ xa_argA u q = nI p ∧ p < 3 := sorry
theorem yea {v : SY} {g d j p : Nat} {x y : Int32} : ys_asNote (ye_s v g d j p x y) (upd (ya_asNote v) (4 * g + d) 0) = ye_s v g d j p x y := sorry
theorem ek_15 {W : Nat} {u : SX} {v : SY} {n S g j i : Nat} (E : ex_at W u v n S g j i) (k : xa_kinds u i = 15) : ex_x W u v g i := sorry
theorem ex_of {W : Nat} {u' : SX} {v' : SY} {A : (SX → Prop) → Prop} {B : (SY → Prop) → Prop} (H : rl_off W u' v') (hA : ∀ P : SX → Prop, P u' → A P) (hB : ∀ P : SY → Prop, P v' → B P) : ex_r W A B := sorry
/-! a goroutine begins to wait -/
def xb_s (u : SX) (g t i : Nat) (un : Int64) (wb : Nat) : SX := xs_position (xs_waitUntil (xs_waitOrder (xs_status (xs_running (xs_waitsBegun u (nI (wb + 1))) (-1)) (upd (xa_status u) g 2)) (upd (xa_waitOrder u) g (nI wb))) (vp_updL (xa_waitUntil u) g un)) (upd (xa_position u) t (nI i))
theorem xb_p {post : SX → Prop} {u : SX} {g t i wb : Nat} {un : Int64} (hg : g < 12) (ht : t < 48) (hr : xa_running u = nI g) (hw : xa_waitsBegun u = nI wb) (h : post (xb_s u g t i un wb)) : wpX_beginWait post u (nI t) (nI i) un := sorry
def yp_s (v : SY) (g : Nat) (un : Int64) (wb c : Nat) : SY := ys_channels (ys_until (ys_since (ys_status (ys_off (ys_turn v (nI (wb + 1))) 1) (upd (ya_status v) g 2)) (upd (ya_since v) g (nI wb))) (vp_updL (ya_until v) g un)) (upd (ya_channels v) g (nI c))
theorem yp_p {post : SY → Prop} {v : SY} {g wb c : Nat} {un : Int64} (hg : g < 12) (hw : ya_turn v = nI wb) (hc : ya_made v = nI c) (c8 : c ≤ 8) (h : post (yp_s v g un wb c)) : wpY_pause post v (nI g) un := sorry
/-- X's slots, told by the arrays -/
def sl_P (K A B vars : Nat → Int32) (n g t w : Nat) (m : Int32) (SW SL : Nat → Int32) : Prop :=
  (K w = 28 → ∀ i, i < 3 → SW (3 * g + i) = 0) ∧
  (K w = 10 ∨ K w = 11 → SW (3 * g) = rl_wish K A B vars t m w ∧ SL (3 * g) = nI w ∧ SW (3 * g + 1) = 0 ∧ SW (3 * g + 2) = 0) ∧
  (K w = 6 → (∀ j, j < n → (st_s K j).head? = some w → st_pc (K j) = true → SL (3 * g + st_n K st_pc w j) = nI j ∧ SW (3 * g + st_n K st_pc w j) = rl_wish K A B vars t m j) ∧
    ∀ i, st_n K st_pc w n ≤ i → i < 3 → SW (3 * g + i) = 0)
theorem wa_co {W : Nat} {u : SX} {v : SY} {n S g j i wb c : Nat} {un : Int64} {SW SL : Nat → Int32} (H : rl_mid W u v n S g (j + 1)) (s : xa_state u = 1) (hm : xa_mode u (4 * g + j) = 0) (hp : ya_panics v (4 * g + j) = 0) (hy : ya_pc v (4 * g + j) = nI i) (hi : i < n) (ki : xa_kinds u i = 6 ∨ xa_kinds u i = 10 ∨ xa_kinds u i = 11 ∨ xa_kinds u i = 28)
    (hw : xa_waitsBegun u = nI wb) (wW : wb ≤ W) (hc : xa_channelCount u = nI c) (c8 : c ≤ 8) (fw : ∀ g', ¬ g' = g → fr_e 3 g' (xa_slotWish u) SW) (fl : ∀ g', ¬ g' = g → fr_e 3 g' (xa_slotLine u) SL) (sl : sl_P (xa_kinds u) (xa_argA u) (xa_argB u) (xa_variables u) n g (4 * g + j) i (nI c) SW SL)
    (hun : (un = -1 ∧ ¬ xa_kinds u i = 28) ∨ (∃ q, q ≤ (W + 1) * 2 ^ 31 ∧ un = lN q ∧ (xa_kinds u i = 28 ∨ (xa_kinds u i = 6 ∧ ∃ l, l < n ∧ (st_s (xa_kinds u) l).head? = some i ∧ xa_kinds u l = 29)))) :
    rl_off (W + 1) (xb_s (xs_slotLine (xs_slotWish u SW) SL) g (4 * g + j) i un wb) (yp_s v g un wb c) := sorry
