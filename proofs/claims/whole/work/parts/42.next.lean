/-! the next goroutine -/
theorem nb_n : ∀ i, i < 64 → vp_nar .byte (nI i) = nI i := by decide +kernel
theorem que_deq {u : SX} {v : SY} {S : Nat} (H : rl_que u v S none) (hS : S ≤ 12) (h0 : ¬ xa_queueLength u = 0) : ∃ g L, g < S ∧ ya_status v g = 1 ∧ L < 12 ∧ xa_queueLength u = nI (L + 1) ∧ xa_queue u 0 = nI g ∧ ya_queue v 0 = nI g ∧ (∀ i, i ≤ L → ∃ k, k < 12 ∧ ya_queue v i = nI k) ∧
    ∀ u' v', xa_queueLength u' = nI L → (∀ i, i < L → xa_queue u' i = xa_queue u (i + 1)) → (∀ i, i < L → ya_queue v' i = ya_queue v (i + 1)) → (∀ q, ya_status v' q = ya_status v q) → rl_que u' v' S (some g) := by
  obtain ⟨Q, q1, q2, q3, q4⟩ := H
  cases Q with
  | nil => exact absurd q2 h0
  | cons g Q =>
    have lb := nd_le S (g :: Q) q1 (fun x hx => ((q4 x).mp hx).1)
    rw [List.length_cons] at lb
    obtain ⟨m, d⟩ := List.nodup_cons.mp q1
    have gm := (q4 g).mp List.mem_cons_self
    have z := q3 0 (by rw [List.length_cons]; omega)
    refine ⟨g, Q.length, gm.1, gm.2.1, by omega, q2, z.1, z.2, fun i hi => ?_, fun u' v' e1 e2 e3 e4 => ⟨Q, d, e1, fun i hi => ?_, fun q => ?_⟩⟩
    · have := (q3 i (by rw [List.length_cons]; omega)).2
      refine ⟨(g :: Q).getD i 0, ?_, this⟩
      have hm : (g :: Q).getD i 0 ∈ (g :: Q) := by
        have hl : i < (g :: Q).length := by rw [List.length_cons]; omega
        rw [List.getD_eq_getElem?_getD, List.getElem?_eq_getElem hl]
        exact List.getElem_mem hl
      have := ((q4 _).mp hm).1
      omega
    · rw [e2 i hi, e3 i hi]
      have := q3 (i + 1) (by rw [List.length_cons]; omega)
      simpa using this
    · rw [e4 q]
      by_cases c : q = g
      · subst c
        exact ⟨fun z => absurd z m, fun z => absurd rfl z.2.2⟩
      · constructor
        · intro z
          have := (q4 q).mp (List.mem_cons_of_mem _ z)
          exact ⟨this.1, this.2.1, fun w => c (by injection w)⟩
        · intro z
          have := (q4 q).mpr ⟨z.1, z.2.1, by simp⟩
          rcases List.mem_cons.mp this with w | w
          · exact absurd w c
          · exact w
theorem xq_xq {u : SX} {a b : Nat → Int32} : xs_queue (xs_queue u a) b = xs_queue u b := Eq.trans (b := (xb_lineCount u, xb_functionCount u, xb_foundLine u, xb_state u, xb_time u, xb_endingPanic u, xb_outputCount u, xb_channelCount u, xb_goroutineCount u, xb_waitsBegun u, xb_running u, xb_queueLength u, xb_kinds u, xb_argA u, xb_argB u, xb_argC u, xb_blockOf u, xb_endOf u, xb_elseOf u, xb_functionLine u, xb_surelySet u, xb_outputs u, xb_capacity u, xb_fill u, xb_closed u, xb_held u, xb_status u, xb_depth u, xb_waitOrder u, xb_waitUntil u, b, xb_slotWish u, xb_slotLine u, xb_position u, xb_mode u, xb_panicOf u, xb_noteCount u, xb_noteFunction u, xb_noteValues u, xb_variables u)) rfl rfl
theorem yq_yq {v : SY} {a b : Nat → Int32} : ys_queue (ys_queue v a) b = ys_queue v b := Eq.trans (b := (yb_lines v, yb_bad v, yb_state v, yb_queued v, yb_started v, yb_now v, yb_clock v, yb_turn v, yb_off v, yb_made v, yb_printed v, yb_panicValue v, yb_kind v, yb_opA v, yb_opB v, yb_opC v, yb_open v, yb_seen v, yb_unset v, yb_status v, yb_depth v, yb_since v, yb_resume v, yb_shocked v, b, yb_until v, yb_channels v, yb_pc v, yb_vars v, yb_noted v, yb_noteOf v, yb_noteB v, yb_noteC v, yb_asNote v, yb_panics v, yb_panicWith v, yb_capacity v, yb_held v, yb_closed v, yb_values v, yb_out v)) rfl rfl
theorem xq_id {u : SX} : xs_queue u (xa_queue u) = u := rfl
theorem yq_id {v : SY} : ys_queue v (ya_queue v) = v := rfl
/-- the queue without its first -/
def q_sh (q : Nat → Int32) (L : Nat) : Nat → Int32 := fun i => if i < L then q (i + 1) else q i
theorem q_sh1 {q : Nat → Int32} {L i : Nat} (h : i < L) : q_sh q L i = q (i + 1) := if_pos h
theorem q_fin {q q' : Nat → Int32} {L : Nat} (h1 : ∀ i, i < L → q' i = q (i + 1)) (h2 : ∀ i, L ≤ i → q' i = q i) : q' = q_sh q L := by
  funext i
  unfold q_sh
  by_cases c : i < L
  · rw [if_pos c]; exact h1 i c
  · rw [if_neg c]; exact h2 i (by omega)
theorem xd_deq {post : Int32 → SX → Prop} {u : SX} {L : Nat} (hL : xa_queueLength u = nI (L + 1)) (L12 : L < 12) (h : post (xa_queue u 0) (xs_queue (xs_queueLength u (nI L)) (q_sh (xa_queue u) L))) : wpX_dequeue post u := by
  have key : ∀ d c q, c + d = L → (∀ i, i < c → q i = xa_queue u (i + 1)) → (∀ i, c ≤ i → q i = xa_queue u i) → ∀ m, d < m → cx_dequeue_19 post (xa_queue u 0) m (nI c) (xs_queue (xs_queueLength u (nI L)) q) := by
    intro d
    induction d with
    | zero =>
      intro c q hc h1 h2 m hm
      obtain ⟨m, rfl⟩ : ∃ q, m = q + 1 := ⟨m - 1, by omega⟩
      have : c = L := by omega
      subst this
      rw [q_fin h1 h2, ux_dequeue_19]
      exact br_t (show nI c ≤ nI c from nI_le (by omega) (by omega)) h
    | succ d ih =>
      intro c q hc h1 h2 m hm
      obtain ⟨m, rfl⟩ : ∃ q, m = q + 1 := ⟨m - 1, by omega⟩
      rw [ux_dequeue_19, nI_1, nI_clamp (show c < 2 ^ 31 by omega), nI_clamp (show c + 1 < 2 ^ 31 by omega)]
      refine br_f (show ¬ nI L ≤ nI c from nI_ge (by omega) (by omega)) ⟨vp_in_nI (by omega) (by decide), vp_in_nI (by omega) (by decide), nm_r (show _ = upd q c (q (c + 1)) from rfl) (nm_e ?_)⟩
      rw [xq_xq]
      refine ih (c + 1) _ (by omega) (fun i hi => ?_) (fun i hi => ?_) m (by omega)
      · by_cases e : i = c
        · subst e; rw [pk_us, h2 (i + 1) (by omega)]
        · rw [pk_un e]; exact h1 i (by omega)
      · rw [pk_un (by omega)]; exact h2 i (by omega)
  rw [ux_dequeue, hL, nI_p]
  have k0 := key L 0 (xa_queue u) (by omega) (fun i hi => by omega) (fun i hi => rfl) (L + 1) (by omega)
  exact nm_e (nm_e ⟨L + 1, k0⟩)
theorem yn_deq {post : SY → Prop} {w : SY} {L : Nat} (hL : ya_queued w = nI L) (L12 : L < 12) (hq : ∀ i, i ≤ L → ∃ k, k < 12 ∧ ya_queue w i = nI k) (h : ∀ m, cy_next_51 post (m + 1) (nI L) (ys_queue w (q_sh (ya_queue w) L))) : ∃ m, cy_next_51 post m 0 w := by
  have key : ∀ d c q, c + d = L → (∀ i, i < c → q i = ya_queue w (i + 1)) → (∀ i, c ≤ i → q i = ya_queue w i) → cy_next_51 post (d + 1) (nI c) (ys_queue w q) := by
    intro d
    induction d with
    | zero =>
      intro c q hc h1 h2
      have : c = L := by omega
      subst this
      rw [q_fin h1 h2]
      exact h 0
    | succ d ih =>
      intro c q hc h1 h2
      obtain ⟨k, k1, k2⟩ := hq (c + 1) (by omega)
      have e : (ya_queue (ys_queue w q)) (c + 1) = nI k := (h2 (c + 1) (by omega)).trans k2
      have e2 : ya_queued (ys_queue w q) = nI L := hL
      rw [uy_next_51, e2, nI_1, nI_clamp (show c < 2 ^ 31 by omega), nI_clamp (show c + 1 < 2 ^ 31 by omega), e, nb_n k (by omega)]
      refine br_f (nI_ge (by omega) (by omega)) ⟨vp_in_nI (by omega) (by decide), vp_in_nI (by omega) (by decide), nm_r (show _ = upd q c (nI k) from rfl) (nm_e ?_)⟩
      rw [yq_yq]
      refine ih (c + 1) _ (by omega) (fun i hi => ?_) (fun i hi => ?_)
      · by_cases e : i = c
        · subst e; rw [pk_us, k2]
        · rw [pk_un e]; exact h1 i (by omega)
      · rw [pk_un (by omega)]; exact h2 i (by omega)
  have k0 := key L 0 (ya_queue w) (by omega) (fun i hi => by omega) (fun i hi => rfl)
  exact ⟨L + 1, k0⟩
theorem mid_deq {W : Nat} {u u' : SX} {v v' : SY} {n S g d : Nat} (H : rl_co W none u v n S) (hg : g < S) (f : fr_sx u u') (B : rl_base u' v') (C : rl_chn u' v') (Q : rl_que u' v' S (some g)) (e1 : xa_goroutineCount u' = xb_goroutineCount u) (e2 : xa_waitsBegun u' = xb_waitsBegun u) (e3 : xa_time u' = xb_time u) (x : ∀ g', ¬ g' = g → fr_gx u u' g') (y : ∀ g', ¬ g' = g → fr_gy v v' g') (M : rl_me u' v' n g d) (r1 : xa_running u' = nI g) (r2 : ya_now v' = nI g) (r3 : ya_off v' = 0) : rl_mid W u' v' n S g d := by
  obtain ⟨b1, b2, b3, b4, b5, b6, b7, b8, ⟨w, s, t1, t2, t3, t4⟩, b10⟩ := H
  refine ⟨⟨B, sx_fr f b2, b3, b4, e1.trans b5, fun q h1 h2 => ?_, C, Q, ⟨w, s, t1, e2.trans t2, t3, e3.trans t4⟩, fun q h1 h2 => ?_⟩, hg, r1, r2, r3, M⟩
  · obtain ⟨y1, y2, y3, y4, _⟩ := y q (by omega)
    rw [y1, y2, y3, y4]
    exact b6 q h1 h2
  · have e : ¬ q = g := fun z => h2 (by rw [z])
    exact rl_go_fr f b2.2.2.2.1 (x q e) (y q e) (b10 q h1 (by simp))
/-- a goroutine that is ready -/
theorem go_ready {W : Nat} {u : SX} {v : SY} {n g : Nat} (G : rl_go W u v n g) (h : ya_status v g = 1) : ∃ j, j < 4 ∧ xa_depth u g = nI (j + 1) ∧ ya_depth v g = nI (j + 1) ∧ rl_low u v n g (j + 1) ∧ rl_nts u v g (j + 1) ∧ xa_mode u (4 * g + j) = 0 ∧ ya_panics v (4 * g + j) = 0 ∧ rl_nw u g ∧
    ((xa_status u g = 1 ∧ ya_resume v g = -1 ∧ ya_shocked v g = 1) ∨ (xa_status u g = 0 ∧ ya_shocked v g = 0 ∧ ∃ p, p < n ∧ xa_position u (4 * g + j) = nI p ∧ (ya_resume v g = nI p ∨ (ya_resume v g = -1 ∧ ya_pc v (4 * g + j) = nI p ∧ ¬ st_mk (xa_kinds u p))))) := by
  obtain ⟨d, d4, e1, e2, H⟩ := G
  rcases H with ⟨h1, h2, h3, h4, h5, h6⟩ | ⟨h1, h2, h3, h4, h5, H⟩
  · rw [h] at h3; exact absurd h3 (by decide)
  · obtain ⟨j, rfl⟩ : ∃ j, d = j + 1 := ⟨d - 1, by omega⟩
    rcases H with ⟨k1, k2, k3, k4, k5⟩ | ⟨k1, k2, k3, k4, k5⟩ | ⟨k1, k2, k3, k4, p, k5, k6, k7⟩
    · rw [h] at k2; exact absurd k2 (by decide)
    · exact ⟨j, by omega, e1, e2, h2, h3, h4, h5, k5, Or.inl ⟨k1, k3, k4⟩⟩
    · exact ⟨j, by omega, e1, e2, h2, h3, h4, h5, k4, Or.inr ⟨k1, k3, p, k5, k6, k7⟩⟩
def ct (f : Nat → Int32) : Nat → Nat
  | 0 => 0
  | i + 1 => ct f i + if f i = 3 then 0 else 1
theorem ct_eq {f f' : Nat → Int32} (h : ∀ g, (f' g = 3 ↔ f g = 3)) : ∀ i, ct f' i = ct f i := by
  intro i
  induction i with
  | zero => rfl
  | succ i ih =>
    show ct f' i + (if f' i = 3 then 0 else 1) = ct f i + (if f i = 3 then 0 else 1)
    rw [ih]
    by_cases c : f i = 3
    · rw [if_pos c, if_pos ((h i).mpr c)]
    · rw [if_neg c, if_neg (fun z => c ((h i).mp z))]
theorem ct_up {f : Nat → Int32} {g : Nat} (h : ¬ f g = 3) : ∀ i, (i ≤ g → ct (upd f g 3) i = ct f i) ∧ (g < i → ct (upd f g 3) i + 1 = ct f i) := by
  intro i
  induction i with
  | zero => exact ⟨fun _ => rfl, fun z => by omega⟩
  | succ i ih =>
    constructor
    · intro hi
      show ct (upd f g 3) i + (if upd f g 3 i = 3 then 0 else 1) = ct f i + (if f i = 3 then 0 else 1)
      rw [ih.1 (by omega), pk_un (by omega)]
    · intro hi
      show ct (upd f g 3) i + (if upd f g 3 i = 3 then 0 else 1) + 1 = ct f i + (if f i = 3 then 0 else 1)
      by_cases c : i = g
      · subst c
        rw [ih.1 (by omega), pk_us, if_pos rfl, if_neg h]
      · rw [pk_un c]
        have := ih.2 (by omega)
        omega
theorem ct_le {f : Nat → Int32} : ∀ i, ct f i ≤ i := by
  intro i
  induction i with
  | zero => exact Nat.le_refl _
  | succ i ih =>
    show ct f i + (if f i = 3 then 0 else 1) ≤ i + 1
    by_cases c : f i = 3
    · rw [if_pos c]; omega
    · rw [if_neg c]; omega
theorem obs_co {W : Nat} {u u' : SX} {v v' : SY} {n S : Nat} (H : rl_co W none u v n S) (e1 : xa_goroutineCount u' = xb_goroutineCount u) (e2 : xa_channelCount u' = xb_channelCount u) (x : ∀ g, fr_gx u u' g) (y : ∀ g, fr_gy v v' g) : rl_obs u' v' := by
  obtain ⟨b1, b2, b3, b4, b5, b6, ⟨c, c8, ec, _⟩, b8, b9, b10⟩ := H
  exact ⟨S, c, b3, e1.trans b5, c8, e2.trans ec, fun q hq => og_fr (x q) (y q) (og_go (b10 q hq (by simp)))⟩
