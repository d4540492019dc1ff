/-! the next goroutine -/
theorem nb_n : ∀ i, i < 64 → vp_nar .byte (nI i) = nI i := sorry
theorem que_deq {u : SX} {v : SY} {S : Nat} (H : rl_que u v S none) (hS : S ≤ 12) (h0 : ¬ xa_queueLength u = 0) : ∃ g L, g < S ∧ ya_status v g = 1 ∧ L < 12 ∧ xa_queueLength u = nI (L + 1) ∧ xa_queue u 0 = nI g ∧ ya_queue v 0 = nI g ∧ (∀ i, i ≤ L → ∃ k, k < 12 ∧ ya_queue v i = nI k) ∧
    ∀ u' v', xa_queueLength u' = nI L → (∀ i, i < L → xa_queue u' i = xa_queue u (i + 1)) → (∀ i, i < L → ya_queue v' i = ya_queue v (i + 1)) → (∀ q, ya_status v' q = ya_status v q) → rl_que u' v' S (some g) := sorry
theorem xq_xq {u : SX} {a b : Nat → Int32} : xs_queue (xs_queue u a) b = xs_queue u b := sorry
theorem yq_yq {v : SY} {a b : Nat → Int32} : ys_queue (ys_queue v a) b = ys_queue v b := sorry
theorem xq_id {u : SX} : xs_queue u (xa_queue u) = u := sorry
theorem yq_id {v : SY} : ys_queue v (ya_queue v) = v := sorry
/-- the queue without its first -/
def q_sh (q : Nat → Int32) (L : Nat) : Nat → Int32 := fun i => if i < L then q (i + 1) else q i
theorem q_sh1 {q : Nat → Int32} {L i : Nat} (h : i < L) : q_sh q L i = q (i + 1) := sorry
theorem q_fin {q q' : Nat → Int32} {L : Nat} (h1 : ∀ i, i < L → q' i = q (i + 1)) (h2 : ∀ i, L ≤ i → q' i = q i) : q' = q_sh q L := sorry
theorem xd_deq {post : Int32 → SX → Prop} {u : SX} {L : Nat} (hL : xa_queueLength u = nI (L + 1)) (L12 : L < 12) (h : post (xa_queue u 0) (xs_queue (xs_queueLength u (nI L)) (q_sh (xa_queue u) L))) : wpX_dequeue post u := sorry
theorem yn_deq {post : SY → Prop} {w : SY} {L : Nat} (hL : ya_queued w = nI L) (L12 : L < 12) (hq : ∀ i, i ≤ L → ∃ k, k < 12 ∧ ya_queue w i = nI k) (h : ∀ m, cy_next_51 post (m + 1) (nI L) (ys_queue w (q_sh (ya_queue w) L))) : ∃ m, cy_next_51 post m 0 w := sorry
theorem mid_deq {W : Nat} {u u' : SX} {v v' : SY} {n S g d : Nat} (H : rl_co W none u v n S) (hg : g < S) (f : fr_sx u u') (B : rl_base u' v') (C : rl_chn u' v') (Q : rl_que u' v' S (some g)) (e1 : xa_goroutineCount u' = xb_goroutineCount u) (e2 : xa_waitsBegun u' = xb_waitsBegun u) (e3 : xa_time u' = xb_time u) (x : ∀ g', ¬ g' = g → fr_gx u u' g') (y : ∀ g', ¬ g' = g → fr_gy v v' g') (M : rl_me u' v' n g d) (r1 : xa_running u' = nI g) (r2 : ya_now v' = nI g) (r3 : ya_off v' = 0) : rl_mid W u' v' n S g d := sorry
/-- a goroutine that is ready -/
theorem go_ready {W : Nat} {u : SX} {v : SY} {n g : Nat} (G : rl_go W u v n g) (h : ya_status v g = 1) : ∃ j, j < 4 ∧ xa_depth u g = nI (j + 1) ∧ ya_depth v g = nI (j + 1) ∧ rl_low u v n g (j + 1) ∧ rl_nts u v g (j + 1) ∧ xa_mode u (4 * g + j) = 0 ∧ ya_panics v (4 * g + j) = 0 ∧ rl_nw u g ∧
    ((xa_status u g = 1 ∧ ya_resume v g = -1 ∧ ya_shocked v g = 1) ∨ (xa_status u g = 0 ∧ ya_shocked v g = 0 ∧ ∃ p, p < n ∧ xa_position u (4 * g + j) = nI p ∧ (ya_resume v g = nI p ∨ (ya_resume v g = -1 ∧ ya_pc v (4 * g + j) = nI p ∧ ¬ st_mk (xa_kinds u p))))) := sorry
def ct (f : Nat → Int32) : Nat → Nat
  | 0 => 0
  | i + 1 => ct f i + if f i = 3 then 0 else 1
theorem ct_eq {f f' : Nat → Int32} (h : ∀ g, (f' g = 3 ↔ f g = 3)) : ∀ i, ct f' i = ct f i := sorry
theorem ct_up {f : Nat → Int32} {g : Nat} (h : ¬ f g = 3) : ∀ i, (i ≤ g → ct (upd f g 3) i = ct f i) ∧ (g < i → ct (upd f g 3) i + 1 = ct f i) := sorry
theorem ct_le {f : Nat → Int32} : ∀ i, ct f i ≤ i := sorry
theorem obs_co {W : Nat} {u u' : SX} {v v' : SY} {n S : Nat} (H : rl_co W none u v n S) (e1 : xa_goroutineCount u' = xb_goroutineCount u) (e2 : xa_channelCount u' = xb_channelCount u) (x : ∀ g, fr_gx u u' g) (y : ∀ g, fr_gy v v' g) : rl_obs u' v' := sorry
