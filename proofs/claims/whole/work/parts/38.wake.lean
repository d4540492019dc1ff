/-! a waiting goroutine is made ready -/
theorem nd_le : ∀ (n : Nat) (L : List Nat), L.Nodup → (∀ x, x ∈ L → x < n) → L.length ≤ n := sorry
theorem que_len {u : SX} {v : SY} {S g : Nat} {r : Option Nat} (H : rl_que u v S r) (hS : S ≤ 12) (hg : g < S) (hn : ¬ (ya_status v g = 1 ∧ ¬ some g = r)) : ∃ L, L < 12 ∧ xa_queueLength u = nI L := sorry
theorem que_add {u u' : SX} {v v' : SY} {S g L : Nat} {r r' : Option Nat} (H : rl_que u v S r) (hS : S ≤ 12) (hg : g < S) (hn : ¬ (ya_status v g = 1 ∧ ¬ some g = r)) (eL : xa_queueLength u = nI L) (L12 : L < 12)
    (e1 : xa_queueLength u' = nI (L + 1)) (e2 : xa_queue u' = upd (xa_queue u) L (nI g)) (e3 : ya_queue v' = upd (ya_queue v) L (nI g)) (e4 : ya_status v' g = 1 ∧ ¬ some g = r') (e5 : ∀ q, ¬ q = g → q < S → ((ya_status v' q = 1 ∧ ¬ some q = r') ↔ (ya_status v q = 1 ∧ ¬ some q = r))) : rl_que u' v' S r' := sorry
theorem rl_me_fr {u u' : SX} {v v' : SY} {n g d : Nat} (f : fr_sx u u') (x : fr_gx u u' g) (y : fr_gy v v' g) (M : rl_me u v n g d) : rl_me u' v' n g d := sorry
/-- one goroutine that is not the running one changes -/
theorem co_one {W : Nat} {r : Option Nat} {u u' : SX} {v v' : SY} {n S g : Nat} (H : rl_co W r u v n S) (hg : g < S) (f : fr_sx u u') (B : rl_base u' v') (C : rl_chn u' v') (Q : rl_que u' v' S r) (e1 : xa_goroutineCount u' = xb_goroutineCount u) (e2 : xa_waitsBegun u' = xb_waitsBegun u) (e3 : xa_time u' = xb_time u) (x : ∀ g', ¬ g' = g → fr_gx u u' g') (y : ∀ g', ¬ g' = g → fr_gy v v' g') (G : rl_go W u' v' n g) : rl_co W r u' v' n S := sorry
def xw_s (u : SX) (g t : Nat) (p st : Int32) (L : Nat) : SX := xs_queue (xs_queueLength (xs_slotWish (xs_waitUntil (xs_position (xs_status u (upd (xa_status u) g st)) (upd (xa_position u) t p)) (vp_updL (xa_waitUntil u) g (-1))) (rl_fw (xa_slotWish u) g)) (nI (L + 1))) (upd (xa_queue u) L (nI g))
theorem xw_p {post : SX → Prop} {u : SX} {g d f L : Nat} {st : Int32} (hg : g < 12) (d0 : 0 < d) (d4 : d ≤ 4) (hd : xa_depth u g = nI d) (hL : xa_queueLength u = nI L) (L12 : L < 12) (h : post (xw_s u g (4 * g + d - 1) (nI (f + 1)) st L)) : wpX_stopWaiting post u (nI g) (nI f) st := sorry
def yr_s (v : SY) (g L : Nat) : SY := ys_queue (ys_status (ys_queued v (nI (L + 1))) (upd (ya_status v) g 1)) (upd (ya_queue v) L (nI g))
theorem yr_p {post : SY → Prop} {v : SY} {g L : Nat} (hg : g < 12) (hL : ya_queued v = nI L) (L12 : L < 12) (h : post (yr_s v g L)) : wpY_ready post v (nI g) := sorry
theorem yw_p {post : SY → Prop} {v : SY} {g f L : Nat} (hg : g < 12) (hf : f + 1 < 60) (hL : ya_queued v = nI L) (L12 : L < 12) (h : post (yr_s (ys_resume v (upd (ya_resume v) g (nI (f + 1)))) g L)) : wpY_wake post v (nI g) (nI f) := sorry
theorem fr_fw {g g' : Nat} {a : Nat → Int32} (h : ¬ g' = g) : fr_e 3 g' a (rl_fw a g) := sorry
theorem fw_nw {u : SX} {g : Nat} (h1 : xa_waitUntil u g = -1) {a : Nat → Int32} (h2 : xa_slotWish u = rl_fw a g) : rl_nw u g := sorry
/-- a waiting goroutine's shape -/
theorem go_wait {W : Nat} {u : SX} {v : SY} {n g : Nat} (G : rl_go W u v n g) (h : xa_status u g = 2) : ∃ d, 0 < d ∧ d ≤ 4 ∧ xa_depth u g = nI d ∧ ya_depth v g = nI d ∧ rl_low u v n g d ∧ rl_nts u v g d ∧ xa_mode u (4 * g + d - 1) = 0 ∧ ya_panics v (4 * g + d - 1) = 0 ∧ ya_status v g = 2 ∧ ya_resume v g = -1 ∧ ya_shocked v g = 0 ∧ rl_wt W u v n g d := sorry
theorem co_wake {W : Nat} {r : Option Nat} {u : SX} {v : SY} {n S g j f L : Nat} {V : Nat → Int32} (H : rl_co W r u v n S) (hg : g < S) (hr : ¬ some g = r) (hs : xa_status u g = 2) (hd : xa_depth u g = nI (j + 1)) (j4 : j < 4) (hL : xa_queueLength u = nI L) (L12 : L < 12) (hf : f + 1 < n) (hV : ∀ g', ¬ g' = g → fr_e 24 g' (xa_variables u) V) :
    rl_co W r (xw_s (xs_variables u V) g (4 * g + j) (nI (f + 1)) 0 L) (yr_s (ys_resume (ys_vars v V) (upd (ya_resume v) g (nI (f + 1)))) g L) n S := sorry
theorem co_doom {W : Nat} {r : Option Nat} {u : SX} {v : SY} {n S g j f L : Nat} (H : rl_co W r u v n S) (hg : g < S) (hr : ¬ some g = r) (hs : xa_status u g = 2) (hd : xa_depth u g = nI (j + 1)) (j4 : j < 4) (hL : xa_queueLength u = nI L) (L12 : L < 12) :
    rl_co W r (xw_s u g (4 * g + j) (nI (f + 1)) 1 L) (yr_s (ys_shocked v (upd (ya_shocked v) g 1)) g L) n S := sorry
