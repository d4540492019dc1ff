/-! the next goroutine: both -/
theorem nx_ready {W : Nat} {u : SX} {v : SY} {n S g j L : Nat} (H : rl_co W none u v n S) (hg : g < S) (j4 : j < 4) (e1 : xa_depth u g = nI (j + 1)) (e2 : ya_depth v g = nI (j + 1)) (h1 : rl_low u v n g (j + 1)) (h2 : rl_nts u v g (j + 1)) (h5 : rl_nw u g) (sx : xa_status u g = 0) (sy : ya_status v g = 1) (sh : ya_shocked v g = 0) (eL : xa_queueLength u = nI (L + 1))
    (Q : rl_que (xs_running (xs_queue (xs_queueLength u (nI L)) (q_sh (xa_queue u) L)) (nI g)) (ys_resume (ys_queue (ys_off (ys_now (ys_queued v (nI L)) (nI g)) 0) (q_sh (ya_queue v) L)) (upd (ya_resume v) g (-1))) S (some g)) :
    rl_mid W (xs_running (xs_queue (xs_queueLength u (nI L)) (q_sh (xa_queue u) L)) (nI g)) (ys_resume (ys_queue (ys_off (ys_now (ys_queued v (nI L)) (nI g)) 0) (q_sh (ya_queue v) L)) (upd (ya_resume v) g (-1))) n S g (j + 1) := by
  obtain ⟨L0, B1, B2, B3, B4, B5, B6, B7, B8, B9, B10, B11, B12, B13, B14, B15, B16, B17, B18, B19, B20, B21, B22⟩ := bs_b H.1
  refine mid_deq H hg ⟨rfl, rfl, rfl, rfl, rfl, rfl, rfl, rfl, rfl, rfl⟩ ⟨L0, B1, B2, B3, B4, B5, B6, B7, B8, B9, B10, B11, B12, B13, B14, B15, B16, rfl, B18, B19, B20, B21, B22⟩ (chn_fr H.2.2.2.2.2.2.1 rfl rfl rfl rfl rfl rfl) Q rfl rfl rfl (fun g1 h1 => ⟨rfl, rfl, rfl, fr_er, fr_er, fr_er, fr_er, fr_er, fr_er, fr_er, fr_er⟩) (fun g1 h1 => ⟨rfl, rfl, (pk_un h1 : (upd (ya_resume v) g (-1)) g1 = ya_resume v g1), rfl, rfl, rfl, fr_er, fr_er, fr_er, fr_er, fr_er⟩) ⟨by omega, by omega, (e1 : xb_depth u g = nI (j + 1)), (e2 : yb_depth v g = nI (j + 1)), rl_low_fr rfl (by omega) fr_er fr_er fr_er fr_er fr_er h1, rl_nts_fr rfl (by omega) fr_er fr_er fr_er fr_er fr_er h2, (sx : xb_status u g = 0), (sy : yb_status v g = 1), (pk_us : upd (ya_resume v) g (-1) g = -1), (sh : yb_shocked v g = 0), rl_nw_fr rfl fr_er h5⟩ rfl rfl rfl
theorem nx_doom {W : Nat} {u : SX} {v : SY} {n S g j L : Nat} (H : rl_co W none u v n S) (hg : g < S) (j4 : j < 4) (e1 : xa_depth u g = nI (j + 1)) (e2 : ya_depth v g = nI (j + 1)) (h1 : rl_low u v n g (j + 1)) (h2 : rl_nts u v g (j + 1)) (h5 : rl_nw u g) (sy : ya_status v g = 1) (eL : xa_queueLength u = nI (L + 1))
    (Q : rl_que (xs_status (xs_running (xs_queue (xs_queueLength u (nI L)) (q_sh (xa_queue u) L)) (nI g)) (upd (xa_status u) g 0)) (ys_shocked (ys_resume (ys_queue (ys_off (ys_now (ys_queued v (nI L)) (nI g)) 0) (q_sh (ya_queue v) L)) (upd (ya_resume v) g (-1))) (upd (ya_shocked v) g 0)) S (some g)) :
    rl_mid W (xs_status (xs_running (xs_queue (xs_queueLength u (nI L)) (q_sh (xa_queue u) L)) (nI g)) (upd (xa_status u) g 0)) (ys_shocked (ys_resume (ys_queue (ys_off (ys_now (ys_queued v (nI L)) (nI g)) 0) (q_sh (ya_queue v) L)) (upd (ya_resume v) g (-1))) (upd (ya_shocked v) g 0)) n S g (j + 1) := by
  obtain ⟨L0, B1, B2, B3, B4, B5, B6, B7, B8, B9, B10, B11, B12, B13, B14, B15, B16, B17, B18, B19, B20, B21, B22⟩ := bs_b H.1
  refine mid_deq H hg ⟨rfl, rfl, rfl, rfl, rfl, rfl, rfl, rfl, rfl, rfl⟩ ⟨L0, B1, B2, B3, B4, B5, B6, B7, B8, B9, B10, B11, B12, B13, B14, B15, B16, rfl, B18, B19, B20, B21, B22⟩ (chn_fr H.2.2.2.2.2.2.1 rfl rfl rfl rfl rfl rfl) Q rfl rfl rfl (fun g1 h1 => ⟨(pk_un h1 : (upd (xa_status u) g 0) g1 = xa_status u g1), rfl, rfl, fr_er, fr_er, fr_er, fr_er, fr_er, fr_er, fr_er, fr_er⟩) (fun g1 h1 => ⟨rfl, rfl, (pk_un h1 : (upd (ya_resume v) g (-1)) g1 = ya_resume v g1), (pk_un h1 : (upd (ya_shocked v) g 0) g1 = ya_shocked v g1), rfl, rfl, fr_er, fr_er, fr_er, fr_er, fr_er⟩) ⟨by omega, by omega, (e1 : xb_depth u g = nI (j + 1)), (e2 : yb_depth v g = nI (j + 1)), rl_low_fr rfl (by omega) fr_er fr_er fr_er fr_er fr_er h1, rl_nts_fr rfl (by omega) fr_er fr_er fr_er fr_er fr_er h2, (pk_us : upd (xa_status u) g 0 g = 0), (sy : yb_status v g = 1), (pk_us : upd (ya_resume v) g (-1) g = -1), (pk_us : upd (ya_shocked v) g 0 g = 0), rl_nw_fr rfl fr_er h5⟩ rfl rfl rfl
def rl_res (W c : Nat) (u : SX) (v : SY) : Prop := (rl_rest W u v ∧ xa_state u = 1) ∨ (rl_off W u v ∧ ct (ya_status v) 12 < c) ∨ rl_done u v
theorem res_out {W g : Nat} {st : Nat → Int32} {u : SX} {v : SY} (hg : g < 12) (h : ¬ st g = 3) (H : rl_out W st g u v) : rl_res W (ct st 12) u v := by
  rcases H with H | ⟨H, e⟩ | H
  · exact Or.inl H
  · refine Or.inr (Or.inl ⟨H, ?_⟩)
    rw [e]
    have := (ct_up h 12).2 hg
    omega
  · exact Or.inr (Or.inr H)
theorem yn_end {P : SY → Prop} {w : SY} {g L m : Nat} (hg : g < 12) (hL : ya_queued w = nI L) (L12 : L < 12) (hn : ya_now w = nI g) (h0 : ya_shocked w g = 0 → ya_resume w g < 0 → P (ys_resume w (upd (ya_resume w) g (-1)))) (h1 : ya_shocked w g = 0 → ¬ ya_resume w g < 0 → wpY_goOn P (ys_resume w (upd (ya_resume w) g (-1))) (nI g) (ya_resume w g))
    (h2 : ¬ ya_shocked w g = 0 → wpY_panic P (ys_shocked (ys_resume w (upd (ya_resume w) g (-1))) (upd (ya_shocked w) g 0)) (nI g) (-1)) : cy_next_51 P (m + 1) (nI L) w := by
  have vg : vp_in (nI g) 12 := vp_in_nI hg (by decide)
  rw [uy_next_51, hL, hn, nI_clamp (show g < 2 ^ 31 by omega)]
  exact br_t (nI_le (Nat.le_refl _) (by omega)) ⟨vg, nm_e ⟨vg, nm_r (show _ = upd (ya_resume w) g (-1) from rfl) ⟨vg, br_c (fun z => br_c (h0 z) (h1 z)) (fun z => ⟨vg, nm_r (show _ = upd (ya_shocked w) g 0 from rfl) (h2 z)⟩)⟩⟩⟩
theorem nx_11 {W : Nat} {u : SX} {v : SY} {n S : Nat} (H : rl_co W none u v n S) (s : xa_state u = 1) :
    ∃ k u1 u' v', k ≤ 1000 ∧ (∀ Q : SX → Prop, Q u1 → cx_runNext_11 Q u) ∧ mv k u1 u' ∧ (∀ P : SY → Prop, P v' → cy_next_11 P v) ∧ rl_res W (ct (ya_status v) 12) u' v' := by
  obtain ⟨L0, B1, B2, B3, B4, B5, B6, B7, B8, B9, B10, B11, B12, B13, B14, B15, B16, B17, B18, B19, B20, B21, B22⟩ := id H.1
  have hS := H.2.2.1
  by_cases h0 : xa_queueLength u = 0
  · obtain ⟨C0, C1, C2, C3, C4, C5, C6, C7, C8, C9, C10, C11, C12, C13, C14, C15, C16, C17, C18, C19, C20, C21, C22⟩ := bs_b H.1
    refine ⟨0, xs_state u 4, xs_state u 4, ys_state v 4, by omega, fun Q q => ?_, mv_0, fun P p => ?_, Or.inr (Or.inr ⟨⟨C0, C1, C2, C3, C4, C5, rfl, C7, C8, C9, C10, C11, C12, C13, C14, C15, C16, C17, C18, C19, C20, C21, C22⟩, obs_co H rfl rfl (fun g => ⟨rfl, rfl, rfl, fr_er, fr_er, fr_er, fr_er, fr_er, fr_er, fr_er, fr_er⟩) (fun g => ⟨rfl, rfl, rfl, rfl, rfl, rfl, fr_er, fr_er, fr_er, fr_er, fr_er⟩), by show ¬ (4 : Int32) = 1; decide⟩)⟩
    · rw [ux_runNext_11]; exact br_t h0 q
    · rw [uy_next_11, B17]; exact br_t h0 p
  · obtain ⟨g, L, q1, q2, q3, q4, q5, q6, q7, q8⟩ := que_deq H.2.2.2.2.2.2.2.1 hS h0
    obtain ⟨j, j4, g1, g2, g3, g4, g5, g6, g7, g8⟩ := go_ready (H.2.2.2.2.2.2.2.2.2 g q1 (by simp)) q2
    have hg : g < 12 := by omega
    have s3 : ¬ ya_status v g = 3 := by rw [q2]; decide
    have cg : (nI g).toNatClampNeg = g := nI_clamp (by omega)
    have q4Y : ya_queued v = nI (L + 1) := B17.trans q4
    have vg : vp_in (nI g) 12 := vp_in_nI hg (by decide)
    have xx : ∀ Q : SX → Prop, (xa_status u g = 1 → Q (xs_panicOf (xs_mode (xs_status (xs_running (xs_queue (xs_queueLength u (nI L)) (q_sh (xa_queue u) L)) (nI g)) (upd (xa_status u) g 0)) (upd (xa_mode u) (4 * g + j) 2)) (upd (xa_panicOf u) (4 * g + j) (-1)))) → (¬ xa_status u g = 1 → Q (xs_running (xs_queue (xs_queueLength u (nI L)) (q_sh (xa_queue u) L)) (nI g))) → cx_runNext_11 Q u := by
      intro Q h1 h2
      rw [ux_runNext_11]
      refine br_f h0 (xd_deq q4 q3 ?_)
      rw [q5, cg]
      refine ⟨vg, br_c (fun z => ⟨vg, nm_r (show _ = upd (xa_status u) g 0 from rfl) (xg_topOf (u := xs_status (xs_running (xs_queue (xs_queueLength u (nI L)) (q_sh (xa_queue u) L)) (nI g)) (upd (xa_status u) g 0)) (d := j + 1) hg (by omega) g1 ?_)⟩) h2⟩
      exact xp_panic (u := xs_status (xs_running (xs_queue (xs_queueLength u (nI L)) (q_sh (xa_queue u) L)) (nI g)) (upd (xa_status u) g 0)) (t := 4 * g + j) (by omega) (h1 z)
    have yy : ∀ P : SY → Prop, (∀ m, cy_next_51 P (m + 1) (nI L) (ys_queue (ys_off (ys_now (ys_queued v (nI L)) (nI g)) 0) (q_sh (ya_queue v) L))) → cy_next_11 P v := by
      intro P h1
      rw [uy_next_11, q6, q4Y, nI_p]
      exact br_f (nI_ne0 (by omega) (by omega)) (nm_e (nm_e (yn_deq (w := ys_off (ys_now (ys_queued v (nI L)) (nI g)) 0) rfl q3 q7 h1)))
    rcases g8 with ⟨a1, a2, a3⟩ | ⟨a1, a2, p, a3, a4, a5⟩
    · have HM := nx_doom H q1 j4 g1 g2 g3 g4 g7 q2 q4 (q8 _ _ rfl (fun i hi => q_sh1 hi) (fun i hi => q_sh1 hi) (fun q => rfl))
      obtain ⟨k, u', v', k1, k2, k3, k4⟩ := pa_all (x := -1) HM s
      refine ⟨k, _, u', v', k1, fun Q q => xx Q (fun _ => q) (fun z => absurd a1 z), k2, fun P p => yy P (fun m => yn_end hg rfl q3 rfl (fun z => ?_) (fun z => ?_) (fun _ => k3 P p)), res_out hg s3 k4⟩
      · have : ya_shocked v g = 0 := z
        rw [a3] at this; exact absurd this (by decide)
      · have : ya_shocked v g = 0 := z
        rw [a3] at this; exact absurd this (by decide)
    · have HM := nx_ready H q1 j4 g1 g2 g3 g4 g7 a1 q2 a2 q4 (q8 _ _ rfl (fun i hi => q_sh1 hi) (fun i hi => q_sh1 hi) (fun q => rfl))
      have n60 := H.2.1.2.1.1
      rcases a5 with a5 | ⟨a5, a6, a7⟩
      · obtain ⟨k, u', v', k1, k2, k3, k4⟩ := go_all HM s g5 g6 a4 a3 a3 rfl
        refine ⟨k, _, u', v', k1, fun Q q => xx Q (fun z => absurd (a1.symm.trans z) (by decide)) (fun _ => q), k2, fun P pp => yy P (fun m => yn_end hg rfl q3 rfl (fun _ z => ?_) (fun _ z => ?_) (fun z => absurd a2 z)), res_out hg s3 k4⟩
        · have : ya_resume v g < 0 := z
          rw [a5] at this; exact absurd this (nI_pos (by omega))
        · have e : ya_resume (ys_queue (ys_off (ys_now (ys_queued v (nI L)) (nI g)) 0) (q_sh (ya_queue v) L)) g = nI p := a5
          rw [e]
          exact k3 P pp
      · refine ⟨0, _, _, ys_resume (ys_queue (ys_off (ys_now (ys_queued v (nI L)) (nI g)) 0) (q_sh (ya_queue v) L)) (upd (ya_resume v) g (-1)), by omega, fun Q q => xx Q (fun z => absurd (a1.symm.trans z) (by decide)) (fun _ => q), mv_0, fun P pp => yy P (fun m => yn_end hg rfl q3 rfl (fun _ _ => pp) (fun _ z => ?_) (fun z => absurd a2 z)), Or.inl ⟨⟨n, S, g, j + 1, p, HM, g5, g6, a3, a4, a6, a7⟩, s⟩⟩
        have : ¬ ya_resume v g < 0 := z
        rw [a5] at this; exact absurd (by decide) this
theorem nx_all {W : Nat} {u : SX} {v : SY} (H : rl_off W u v) (hW : W * 2 ^ 31 < 2 ^ 63) :
    ∃ k u' v', k ≤ 1001 ∧ mv k u u' ∧ (∀ P : SY → Prop, P v' → wpY_next P v) ∧ rl_res W (ct (ya_status v) 12) u' v' := by
  obtain ⟨n, S, C, hr, ho, s⟩ := H
  have B17 : ya_queued v = xa_queueLength u := C.1.2.2.2.2.2.2.2.2.2.2.2.2.2.2.2.2.2.1
  by_cases h0 : xa_queueLength u = 0
  · obtain ⟨u1, v1, p1, p2, p3, p4, p5, p6, p7⟩ := pt_all C hW
    obtain ⟨k, u2, u', v', k1, k2, k3, k4, k5⟩ := nx_11 p3 (p5.trans s)
    rw [ct_eq p7] at k5
    refine ⟨1 + k, u', v', by omega, mv_t (mv_nx s hr (fun Q q => ?_)) k3, fun P p => ?_, k5⟩
    · rw [ux_runNext]; exact br_t h0 (p1 _ (k2 Q q))
    · rw [uy_next, B17]; exact br_t h0 (p2 _ (k4 P p))
  · obtain ⟨k, u2, u', v', k1, k2, k3, k4, k5⟩ := nx_11 C s
    refine ⟨1 + k, u', v', by omega, mv_t (mv_nx s hr (fun Q q => ?_)) k3, fun P p => ?_, k5⟩
    · rw [ux_runNext]; exact br_f h0 (k2 Q q)
    · rw [uy_next, B17]; exact br_f h0 (k4 P p)
/-- what a step ends with -/
def rl_fin (W : Nat) (u : SX) (v : SY) : Prop := (rl_rest W u v ∧ xa_state u = 1) ∨ rl_done u v
theorem nx_loop {W : Nat} (hW : W * 2 ^ 31 < 2 ^ 63) : ∀ c u v i, rl_res W c u v → i + c ≤ 29 →
    ∃ k u' v', k ≤ 1001 * c ∧ mv k u u' ∧ (∀ (post : Int32 → SY → Prop) (J : Int32 → SY → Prop) (x1 : Int32) (x2 : Nat) m, c < m → J (nI (x2 + 1)) v' → cy_run_58 post J x1 (nI x2) m (nI i) v) ∧ rl_fin W u' v' := by
  intro c
  induction c with
  | zero =>
    intro u v i H hi
    rcases H with H | ⟨H, e⟩ | H
    · refine ⟨0, u, v, by omega, mv_0, fun post J x1 x2 m hm p => ?_, Or.inl H⟩
      obtain ⟨m, rfl⟩ : ∃ q, m = q + 1 := ⟨m - 1, by omega⟩
      obtain ⟨⟨n, S, g, d, p', h1, h2⟩, s⟩ := H
      have so : ya_off v = 0 := h1.2.2.2.2.1
      have ss : ya_state v = 1 := (h1.1.1.2.2.2.2.2.2.1).trans s
      rw [uy_run_58, so, ss]
      exact br_f (nI_ge (b := 30) (by omega) (by decide)) (br_t rfl (br_t rfl (nm_r (nI_1 _) p)))
    · omega
    · refine ⟨0, u, v, by omega, mv_0, fun post J x1 x2 m hm p => ?_, Or.inr H⟩
      obtain ⟨m, rfl⟩ : ∃ q, m = q + 1 := ⟨m - 1, by omega⟩
      have ss : ¬ ya_state v = 1 := by rw [H.1.2.2.2.2.2.2.1]; exact H.2.2
      rw [uy_run_58]
      exact br_f (nI_ge (b := 30) (by omega) (by decide)) (br_f ss (nm_r (nI_1 _) p))
  | succ c ih =>
    intro u v i H hi
    rcases H with H | ⟨H, e⟩ | H
    · refine ⟨0, u, v, by omega, mv_0, fun post J x1 x2 m hm p => ?_, Or.inl H⟩
      obtain ⟨m, rfl⟩ : ∃ q, m = q + 1 := ⟨m - 1, by omega⟩
      obtain ⟨⟨n, S, g, d, p', h1, h2⟩, s⟩ := H
      have so : ya_off v = 0 := h1.2.2.2.2.1
      have ss : ya_state v = 1 := (h1.1.1.2.2.2.2.2.2.1).trans s
      rw [uy_run_58, so, ss]
      exact br_f (nI_ge (b := 30) (by omega) (by decide)) (br_t rfl (br_t rfl (nm_r (nI_1 _) p)))
    · obtain ⟨k, u1, v1, k1, k2, k3, k4⟩ := nx_all H hW
      have k4 : rl_res W c u1 v1 := by
        rcases k4 with z | ⟨z, y⟩ | z
        · exact Or.inl z
        · exact Or.inr (Or.inl ⟨z, by omega⟩)
        · exact Or.inr (Or.inr z)
      obtain ⟨k', u', v', i1, i2, i3, i4⟩ := ih u1 v1 (i + 1) k4 (by omega)
      refine ⟨k + k', u', v', by omega, mv_t k2 i2, fun post J x1 x2 m hm p => ?_, i4⟩
      obtain ⟨m, rfl⟩ : ∃ q, m = q + 1 := ⟨m - 1, by omega⟩
      obtain ⟨n, S, C, hr, ho, s⟩ := H
      have ss : ya_state v = 1 := (C.1.2.2.2.2.2.2.1).trans s
      rw [uy_run_58, ho, ss]
      exact br_f (nI_ge (b := 30) (by omega) (by decide)) (br_t rfl (br_f (by decide) (k3 _ (nm_r (nI_1 _) (i3 post J x1 x2 m (by omega) p)))))
    · refine ⟨0, u, v, by omega, mv_0, fun post J x1 x2 m hm p => ?_, Or.inr H⟩
      obtain ⟨m, rfl⟩ : ∃ q, m = q + 1 := ⟨m - 1, by omega⟩
      have ss : ¬ ya_state v = 1 := by rw [H.1.2.2.2.2.2.2.1]; exact H.2.2
      rw [uy_run_58]
      exact br_f (nI_ge (b := 30) (by omega) (by decide)) (br_f ss (nm_r (nI_1 _) p))
