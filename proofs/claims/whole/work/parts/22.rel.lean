/-! Y: taking a line; both: the program is ended -/
theorem yl_args {post : Int32 → SY → Prop} {v : SY} {k a b c : Int32} (hk : ∃ q, q < 30 ∧ k = nI q) (h1 : ln_ok k a b c → cy_line_114 post k a b c v) (h0 : ¬ ln_ok k a b c → post 0 v) :
    ((k = 0 → (((a < 0 → (post 0 v)) ∧ (¬ a < 0 → (((2 < a → (post 0 v)) ∧ (¬ 2 < a → (cy_line_34 post k a b c v)))))))) ∧ (¬ k = 0 → (cy_line_34 post k a b c v))) := sorry
theorem yl_line {post : Int32 → SY → Prop} {v : SY} {n : Nat} {k a b c : Int32} (hn : ya_lines v = nI n) (n1 : ¬ nI n = 60) (lo : ¬ k < 0) (hi : k ≤ 29) (h1 : ln_ok k a b c → cy_line_114 post k a b c v) (h0 : ¬ ln_ok k a b c → post 0 v) : wpY_line post v k a b c := sorry
def yz_a (v : SY) (st dp rs sh : Nat → Int32) : SY := ys_shocked (ys_resume (ys_depth (ys_status v st) dp) rs) sh
def yz_b (v : SY) : SY := ys_panicValue (ys_printed (ys_made (ys_off (ys_turn (ys_clock (ys_now (ys_started (ys_queued v 0) 0) 0) 0) 0) 0) 0) 0) 0
theorem yz_n {v : SY} {st dp rs sh st' dp' rs' sh' : Nat → Int32} : ys_shocked (ys_resume (ys_depth (ys_status (yz_a v st dp rs sh) st') dp') rs') sh' = yz_a v st' dp' rs' sh' := sorry
theorem yz_0 {v : SY} : v = yz_a v (ya_status v) (ya_depth v) (ya_resume v) (ya_shocked v) := sorry
/-- Y's goroutines that have not been started -/
def rl_fresh (st dp rs sh : Nat → Int32) (s : Nat) : Prop := ∀ g, s ≤ g → g < 12 → st g = 0 ∧ dp g = 0 ∧ rs g = -1 ∧ sh g = 0
theorem yi_loop {post : SY → Prop} {v : SY} (hp : ∀ st dp rs sh, rl_fresh st dp rs sh 0 → post (yz_b (yz_a v st dp rs sh))) :
    ∀ d i st dp rs sh, i + d = 12 → (∀ g, g < i → st g = 0 ∧ dp g = 0 ∧ rs g = -1 ∧ sh g = 0) → ∀ m, d < m → cy_idle_7 post m (nI i) (yz_a v st dp rs sh) := sorry
theorem yi_idle {post : SY → Prop} {v : SY} (hp : ∀ st dp rs sh, rl_fresh st dp rs sh 0 → post (yz_b (yz_a (ys_state v 0) st dp rs sh))) : wpY_idle post v := sorry
def xz (u : SX) : SX := xs_queueLength (xs_running (xs_waitsBegun (xs_goroutineCount (xs_channelCount (xs_outputCount (xs_endingPanic (xs_time (xs_state u 0) 0) 0) 0) 0) 0) 0) (-1)) 0
theorem xz_p {post : SX → Prop} {u : SX} (h : post (xz u)) : wpX_endProgram post u := sorry
/-! the relation -/
def rl_base (u : SX) (v : SY) : Prop :=
  (∃ n, n ≤ 60 ∧ xa_lineCount u = nI n ∧ ya_lines v = nI n ∧ ∀ i, i < n → ln_ok (xa_kinds u i) (xa_argA u i) (xa_argB u i) (xa_argC u i)) ∧
  ya_kind v = xa_kinds u ∧ ya_opA v = xa_argA u ∧ ya_opB v = xa_argB u ∧ ya_opC v = xa_argC u ∧ ya_bad v = xa_foundLine u ∧ ya_state v = xa_state u ∧ ya_clock v = xa_time u ∧
  ya_printed v = xa_outputCount u ∧ ya_out v = xa_outputs u ∧ ya_panicValue v = xa_endingPanic u ∧ ya_made v = xa_channelCount u ∧ ya_capacity v = xa_capacity u ∧ ya_held v = xa_fill u ∧ ya_closed v = xa_closed u ∧
  ya_started v = xa_goroutineCount u ∧ ya_turn v = xa_waitsBegun u ∧ ya_queued v = xa_queueLength u ∧ ya_vars v = xa_variables u ∧ ya_noted v = xa_noteCount u ∧ ya_noteOf v = xa_noteFunction u ∧ ya_panicWith v = xa_panicOf u ∧ ya_since v = xa_waitOrder u
/-- what the answers show of a goroutine -/
def rl_og (u : SX) (v : SY) (g : Nat) : Prop := ∃ d, d ≤ 4 ∧ xa_depth u g = nI d ∧ ya_depth v g = nI d ∧
  ((xa_status u g = 3 ∧ ya_status v g = 3) ∨ (xa_status u g = 2 ∧ ya_status v g = 2 ∧ 0 < d ∧ xa_position u (4 * g + d - 1) = ya_pc v (4 * g + d - 1)) ∨ ((xa_status u g = 0 ∨ xa_status u g = 1) ∧ ya_status v g = 1)) ∧
  (∀ j, j < d → (xa_mode u (4 * g + j) = 2 ↔ ¬ ya_panics v (4 * g + j) = 0))
def rl_obs (u : SX) (v : SY) : Prop := ∃ S c, S ≤ 12 ∧ xa_goroutineCount u = nI S ∧ c ≤ 8 ∧ xa_channelCount u = nI c ∧ ∀ g, g < S → rl_og u v g
/-- no wait is on -/
def rl_nw (u : SX) (g : Nat) : Prop := xa_waitUntil u g = -1 ∧ ∀ i, i < 3 → xa_slotWish u (3 * g + i) = 0
/-- the activations below the latest -/
def rl_low (u : SX) (v : SY) (n g d : Nat) : Prop := ya_asNote v (4 * g) = 0 ∧ ∀ j, j + 1 < d →
  (ya_asNote v (4 * g + j + 1) = 0 ∧ xa_mode u (4 * g + j) = 0 ∧ ya_panics v (4 * g + j) = 0 ∧ ∃ p, p < n ∧ xa_kinds u p = 15 ∧ ya_pc v (4 * g + j) = nI p ∧ xa_position u (4 * g + j) = nI (p + 1)) ∨
  (ya_asNote v (4 * g + j + 1) = 1 ∧ ((xa_mode u (4 * g + j) = 1 ∧ ya_panics v (4 * g + j) = 0) ∨ (xa_mode u (4 * g + j) = 2 ∧ ya_panics v (4 * g + j) = 1)))
/-- the notes of the activations -/
def rl_nts (u : SX) (v : SY) (g d : Nat) : Prop := ∀ j, j < d → ∃ c, c ≤ 3 ∧ xa_noteCount u (4 * g + j) = nI c ∧ ∀ i, i < c → (∃ f, f < 30 ∧ nI f < xa_functionCount u ∧ xa_noteFunction u (3 * (4 * g + j) + i) = nI f) ∧
  xa_noteValues u (2 * (3 * (4 * g + j) + i)) = ya_noteB v (3 * (4 * g + j) + i) ∧ xa_noteValues u (2 * (3 * (4 * g + j) + i) + 1) = ya_noteC v (3 * (4 * g + j) + i)
def rl_val (vars : Nat → Int32) (t : Nat) (op : Int32) : Int32 := if op < 0 then op else if (6 : Int32) ≤ op then op - 6 else vars (6 * t + op.toNatClampNeg)
/-- what a case waits for: the channel's number to receive, its negative to send -/
def rl_wish (K A B vars : Nat → Int32) (t : Nat) (m : Int32) (j : Nat) : Int32 :=
  if K j = 7 ∨ K j = 10 then (if ¬ rl_val vars t (A j) < 1 ∧ ¬ m < rl_val vars t (A j) then - rl_val vars t (A j) else 0)
  else (if ¬ rl_val vars t (B j) < 1 ∧ ¬ m < rl_val vars t (B j) then rl_val vars t (B j) else 0)
/-- X's slots of a goroutine that waits at line w -/
def rl_slo (u : SX) (v : SY) (n g t w : Nat) : Prop :=
  (xa_kinds u w = 28 → ∀ i, i < 3 → xa_slotWish u (3 * g + i) = 0) ∧
  (xa_kinds u w = 10 ∨ xa_kinds u w = 11 → xa_slotWish u (3 * g) = rl_wish (xa_kinds u) (xa_argA u) (xa_argB u) (xa_variables u) t (ya_channels v g) w ∧ xa_slotLine u (3 * g) = nI w ∧ xa_slotWish u (3 * g + 1) = 0 ∧ xa_slotWish u (3 * g + 2) = 0) ∧
  (xa_kinds u w = 6 → (∀ j, j < n → (st_s (xa_kinds u) j).head? = some w → st_pc (xa_kinds u j) = true → xa_slotLine u (3 * g + st_n (xa_kinds u) st_pc w j) = nI j ∧ xa_slotWish u (3 * g + st_n (xa_kinds u) st_pc w j) = rl_wish (xa_kinds u) (xa_argA u) (xa_argB u) (xa_variables u) t (ya_channels v g) j) ∧
    ∀ i, st_n (xa_kinds u) st_pc w n ≤ i → i < 3 → xa_slotWish u (3 * g + i) = 0)
def rl_wt (W : Nat) (u : SX) (v : SY) (n g d : Nat) : Prop := ∃ w, w < n ∧ (xa_kinds u w = 6 ∨ xa_kinds u w = 10 ∨ xa_kinds u w = 11 ∨ xa_kinds u w = 28) ∧
  xa_position u (4 * g + d - 1) = nI w ∧ ya_pc v (4 * g + d - 1) = nI w ∧ rl_slo u v n g (4 * g + d - 1) w ∧ ya_until v g = xa_waitUntil u g ∧
  ((xa_waitUntil u g = -1 ∧ ¬ xa_kinds u w = 28) ∨ (∃ s, s ≤ W * 2 ^ 31 ∧ xa_waitUntil u g = lN s ∧ (xa_kinds u w = 28 ∨ (xa_kinds u w = 6 ∧ ∃ j, j < n ∧ (st_s (xa_kinds u) j).head? = some w ∧ xa_kinds u j = 29)))) ∧
  ∃ m, m ≤ 8 ∧ ya_channels v g = nI m
/-- a goroutine that is not the running one -/
def rl_go (W : Nat) (u : SX) (v : SY) (n g : Nat) : Prop := ∃ d, d ≤ 4 ∧ xa_depth u g = nI d ∧ ya_depth v g = nI d ∧
  ((d = 0 ∧ xa_status u g = 3 ∧ ya_status v g = 3 ∧ rl_nw u g ∧ ya_resume v g = -1 ∧ ya_shocked v g = 0) ∨
   (0 < d ∧ rl_low u v n g d ∧ rl_nts u v g d ∧ xa_mode u (4 * g + d - 1) = 0 ∧ ya_panics v (4 * g + d - 1) = 0 ∧
    ((xa_status u g = 2 ∧ ya_status v g = 2 ∧ ya_resume v g = -1 ∧ ya_shocked v g = 0 ∧ rl_wt W u v n g d) ∨
     (xa_status u g = 1 ∧ ya_status v g = 1 ∧ ya_resume v g = -1 ∧ ya_shocked v g = 1 ∧ rl_nw u g) ∨
     (xa_status u g = 0 ∧ ya_status v g = 1 ∧ ya_shocked v g = 0 ∧ rl_nw u g ∧ ∃ p, p < n ∧ xa_position u (4 * g + d - 1) = nI p ∧ (ya_resume v g = nI p ∨ (ya_resume v g = -1 ∧ ya_pc v (4 * g + d - 1) = nI p ∧ ¬ st_mk (xa_kinds u p)))))))
def rl_chn (u : SX) (v : SY) : Prop := ∃ c, c ≤ 8 ∧ xa_channelCount u = nI c ∧ ∀ i, i < c → ∃ f q, f ≤ q ∧ q ≤ 3 ∧ xa_fill u i = nI f ∧ xa_capacity u i = nI q ∧ (xa_closed u i = 0 ∨ xa_closed u i = 1) ∧ ∀ j, j < f → xa_held u (3 * i + j) = ya_values v (3 * i + j)
def rl_que (u : SX) (v : SY) (S : Nat) (r : Option Nat) : Prop := ∃ Q : List Nat, Q.Nodup ∧ xa_queueLength u = nI Q.length ∧ (∀ i, i < Q.length → xa_queue u i = nI (Q.getD i 0) ∧ ya_queue v i = nI (Q.getD i 0)) ∧ (∀ g, g ∈ Q ↔ g < S ∧ ya_status v g = 1 ∧ ¬ some g = r)
def rl_tm (W : Nat) (u : SX) : Prop := ∃ w s, w ≤ W ∧ xa_waitsBegun u = nI w ∧ s ≤ W * 2 ^ 31 ∧ xa_time u = lN s
/-- all but the running goroutine r -/
def rl_co (W : Nat) (r : Option Nat) (u : SX) (v : SY) (n S : Nat) : Prop :=
  rl_base u v ∧ sx_st u n ∧ S ≤ 12 ∧ 0 < S ∧ xa_goroutineCount u = nI S ∧ rl_fresh (ya_status v) (ya_depth v) (ya_resume v) (ya_shocked v) S ∧ rl_chn u v ∧ rl_que u v S r ∧ rl_tm W u ∧ ∀ g, g < S → ¬ some g = r → rl_go W u v n g
/-- the running goroutine, but for its latest activation's line -/
def rl_me (u : SX) (v : SY) (n g d : Nat) : Prop := 0 < d ∧ d ≤ 4 ∧ xa_depth u g = nI d ∧ ya_depth v g = nI d ∧ rl_low u v n g d ∧ rl_nts u v g d ∧ xa_status u g = 0 ∧ ya_status v g = 1 ∧ ya_resume v g = -1 ∧ ya_shocked v g = 0 ∧ rl_nw u g
def rl_mid (W : Nat) (u : SX) (v : SY) (n S g d : Nat) : Prop := rl_co W (some g) u v n S ∧ g < S ∧ xa_running u = nI g ∧ ya_now v = nI g ∧ ya_off v = 0 ∧ rl_me u v n g d
/-- at rest: the running goroutine stands at a line to be executed -/
def rl_rest (W : Nat) (u : SX) (v : SY) : Prop := ∃ n S g d p, rl_mid W u v n S g d ∧ xa_mode u (4 * g + d - 1) = 0 ∧ ya_panics v (4 * g + d - 1) = 0 ∧ p < n ∧ xa_position u (4 * g + d - 1) = nI p ∧ ya_pc v (4 * g + d - 1) = nI p ∧ ¬ st_mk (xa_kinds u p)
def rl_full (k : Nat) (u : SX) (v : SY) : Prop := rl_rest (40 * k) u v
theorem rl_go_up {W W' : Nat} {u : SX} {v : SY} {n g : Nat} (h : W ≤ W') (H : rl_go W u v n g) : rl_go W' u v n g := sorry
theorem rl_co_up {W W' : Nat} {r : Option Nat} {u : SX} {v : SY} {n S : Nat} (h : W ≤ W') (H : rl_co W r u v n S) : rl_co W' r u v n S := sorry
theorem rl_full_up {k : Nat} {u : SX} {v : SY} (h : rl_full k u v) : rl_full (k + 5) u v := sorry
