/-! SEND, RECV, SELECT: X's offers -/
def c_S (K : Nat → Int32) (w i : Nat) : Prop := (i = w ∧ K i = 10) ∨ (¬ i = w ∧ (st_s K i).head? = some w ∧ K i = 7)
def c_R (K : Nat → Int32) (w i : Nat) : Prop := (i = w ∧ K i = 11) ∨ (¬ i = w ∧ (st_s K i).head? = some w ∧ K i = 8)
theorem c_pc {K : Nat → Int32} {w i : Nat} (k6 : K w = 6) : (c_S K w i ∨ c_R K w i) ↔ ((st_s K i).head? = some w ∧ st_pc (K i) = true) := sorry
theorem xs_of {post : Int32 → Prop} {u : SX} {n w i : Nat} (T : sx_st u n) (hw : w < n) (hi : i < n) (h1 : c_S (xa_kinds u) w i → post 1) (h0 : ¬ c_S (xa_kinds u) w i → post 0) : wpX_isSendOf post u (nI w) (nI i) := sorry
theorem xr_of {post : Int32 → Prop} {u : SX} {n w i : Nat} (T : sx_st u n) (hw : w < n) (hi : i < n) (h1 : c_R (xa_kinds u) w i → post 1) (h0 : ¬ c_R (xa_kinds u) w i → post 0) : wpX_isReceiveOf post u (nI w) (nI i) := sorry
theorem c_SR {K : Nat → Int32} {w i : Nat} (h : c_S K w i) : ¬ c_R K w i := sorry
def os_s (u : SX) (SW SL : Nat → Int32) : SX := xs_slotLine (xs_slotWish u SW) SL
theorem os_os {u : SX} {a b a' b' : Nat → Int32} : xs_slotLine (xs_slotWish (os_s u a b) a') b' = os_s u a' b' := sorry
theorem os_id {u : SX} : os_s u (xa_slotWish u) (xa_slotLine u) = u := sorry
/-- one case is offered -/
theorem oc_1 {post : SX → Prop} {J : Int32 → Int32 → SX → Prop} {u : SX} {SW SL : Nat → Int32} {n w i t sl c : Nat} {x3 x6 : Int32} (ht : t < 48) (i60 : i < 60) (s36 : sl < 36) (ec : xa_channelCount u = nI c) (hx : (x6 = 1 ∧ (xa_kinds u i = 7 ∨ xa_kinds u i = 10)) ∨ (x6 = 0 ∧ ¬ (xa_kinds u i = 7 ∨ xa_kinds u i = 10)))
    (h : J (nI (sl + 1)) (nI (i + 1)) (os_s u (upd SW sl (rl_wish (xa_kinds u) (xa_argA u) (xa_argB u) (xa_variables u) t (nI c) i)) (upd SL sl (nI i)))) : cx_offerCases_41 post J (nI t) (nI w) x3 (nI sl) (nI i) x6 (os_s u SW SL) := sorry
theorem sx_os {u : SX} {n : Nat} {a b : Nat → Int32} (T : sx_st u n) : sx_st (os_s u a b) n := sorry
/-- SEND and RECV offer themselves -/
theorem oc_one {post : SX → Prop} {u : SX} {n g t w c : Nat} (T : sx_st u n) (hg : g < 12) (ht : t < 48) (hw : w < n) (kw : xa_kinds u w = 10 ∨ xa_kinds u w = 11) (hr : xa_running u = nI g) (ec : xa_channelCount u = nI c)
    (h : post (os_s u (upd (xa_slotWish u) (3 * g) (rl_wish (xa_kinds u) (xa_argA u) (xa_argB u) (xa_variables u) t (nI c) w)) (upd (xa_slotLine u) (3 * g) (nI w)))) : wpX_offerCases post u (nI t) (nI w) (nI w) := sorry
/-- SELECT offers its cases -/
theorem oc_sel {u : SX} {n g t w c : Nat} (T : sx_st u n) (hg : g < 12) (ht : t < 48) (hw : w < n) (k6 : xa_kinds u w = 6) (ec : xa_channelCount u = nI c) (nw : rl_nw u g) :
    ∀ d i, w + d = i → i ≤ st_e (xa_kinds u) w n + 1 → ∃ SW SL, (∀ l, l < i → (st_s (xa_kinds u) l).head? = some w → st_pc (xa_kinds u l) = true → SL (3 * g + st_n (xa_kinds u) st_pc w l) = nI l ∧ SW (3 * g + st_n (xa_kinds u) st_pc w l) = rl_wish (xa_kinds u) (xa_argA u) (xa_argB u) (xa_variables u) t (nI c) l) ∧ (∀ k, st_n (xa_kinds u) st_pc w i ≤ k → k < 3 → SW (3 * g + k) = 0) ∧ (∀ g', ¬ g' = g → fr_e 3 g' (xa_slotWish u) SW ∧ fr_e 3 g' (xa_slotLine u) SL) ∧
      ∀ (post : SX → Prop) m, cx_offerCases_11 post (nI t) (nI w) (nI (st_e (xa_kinds u) w n)) m (nI (3 * g + st_n (xa_kinds u) st_pc w i)) (nI i) (os_s u SW SL) → cx_offerCases_11 post (nI t) (nI w) (nI (st_e (xa_kinds u) w n)) (m + d) (nI (3 * g)) (nI w) u := sorry
