/-! the running goroutine's small changes -/
theorem nI_p (a : Nat) : nI (a + 1) - 1 = nI a := by
  show nI (a + 1) - nI 1 = nI a
  rw [pk_sub (by omega)]; rfl
theorem mid_t {W : Nat} {u : SX} {v : SY} {n S g d : Nat} (H : rl_mid W u v n S g d) : 4 * g + d - 1 < 48 ∧ g < 12 := by
  have h1 := H.1.2.2.1
  have h2 := H.2.1
  have h3 := H.2.2.2.2.2.1
  have h4 := H.2.2.2.2.2.2.1
  omega
theorem mid_xr {W : Nat} {u : SX} {v : SY} {n S g d : Nat} (H : rl_mid W u v n S g d) (s : xa_state u = 1) : xr_ok u g d :=
  ⟨s, H.2.2.1, (mid_t H).2, H.2.2.2.2.2.1, H.2.2.2.2.2.2.1, H.2.2.2.2.2.2.2.1⟩
theorem me_low {u u' : SX} {v v' : SY} {n g j : Nat} (a2 : xa_kinds u' = xb_kinds u) (H : rl_low u v n g (j + 1)) (j4 : j < 4) (x6 : ∀ i, i < j → xa_position u' (4 * g + i) = xb_position u (4 * g + i)) (x7 : ∀ i, i < j → xa_mode u' (4 * g + i) = xb_mode u (4 * g + i)) (y7 : ∀ i, i < j → ya_pc v' (4 * g + i) = yb_pc v (4 * g + i))
    (y8 : ∀ i, i < j + 1 → ya_asNote v' (4 * g + i) = yb_asNote v (4 * g + i)) (y9 : ∀ i, i < j → ya_panics v' (4 * g + i) = yb_panics v (4 * g + i)) : rl_low u' v' n g (j + 1) := by
  refine ⟨(y8 0 (by omega)).trans H.1, fun i hi => ?_⟩
  have e8 : ya_asNote v' (4 * g + i + 1) = yb_asNote v (4 * g + i + 1) := y8 (i + 1) (by omega)
  rw [e8, y7 i (by omega), y9 i (by omega), x6 i (by omega), x7 i (by omega), a2]
  exact H.2 i hi
theorem xm_id {u : SX} : xs_mode u (xa_mode u) = u := rfl
theorem yp_id {v : SY} : ys_pc v (ya_pc v) = v := rfl
theorem yn_id {v : SY} : ys_panics v (ya_panics v) = v := rfl
theorem mid_pos {W : Nat} {u : SX} {v : SY} {n S g j : Nat} {p : Int32} (H : rl_mid W u v n S g (j + 1)) : rl_mid W (xs_position u (upd (xa_position u) (4 * g + j) p)) v n S g (j + 1) := by
  obtain ⟨m1, m2, m3, m4, m5, m6, m7, m8, m9, m10, m11⟩ := me_b H.2.2.2.2.2
  obtain ⟨L0, B1, B2, B3, B4, B5, B6, B7, B8, B9, B10, B11, B12, B13, B14, B15, B16, B17, B18, B19, B20, B21, B22⟩ := bs_b H.1.1
  refine mid_loc H ⟨⟨rfl, rfl, rfl, rfl, rfl, rfl, rfl, rfl, rfl, rfl⟩, rfl, rfl, rfl, rfl, rfl, rfl, fun g1 h1 => ⟨rfl, rfl, rfl, fr_er, fr_er, (fr_e4 h1 (by omega) : fr_e 4 g1 (xa_position u) (upd (xa_position u) (4 * g + j) p)), fr_er, fr_er, fr_er, fr_er, fr_er⟩⟩ ⟨rfl, rfl, rfl, fun g1 h1 => ⟨rfl, rfl, rfl, rfl, rfl, rfl, fr_er, fr_er, fr_er, fr_er, fr_er⟩⟩ ⟨L0, B1, B2, B3, B4, B5, B6, B7, B8, B9, B10, B11, B12, B13, B14, B15, B16, B17, B18, B19, B20, B21, B22⟩ (chn_fr H.1.2.2.2.2.2.2.1 rfl rfl rfl rfl rfl rfl) ⟨m1, m2, m3, m4, ?_, (rl_nts_fr rfl m2 fr_er fr_er fr_er fr_er fr_er m6), m7, m8, m9, m10, (rl_nw_fr rfl fr_er m11)⟩
  exact me_low rfl m5 (by omega) (fun i hi => (pk_un (by omega) : upd (xa_position u) (4 * g + j) p (4 * g + i) = xa_position u (4 * g + i))) (fun i hi => rfl) (fun i hi => rfl) (fun i hi => rfl) (fun i hi => rfl)
theorem mid_mode {W : Nat} {u : SX} {v : SY} {n S g j : Nat} {p : Int32} (H : rl_mid W u v n S g (j + 1)) : rl_mid W (xs_mode u (upd (xa_mode u) (4 * g + j) p)) v n S g (j + 1) := by
  obtain ⟨m1, m2, m3, m4, m5, m6, m7, m8, m9, m10, m11⟩ := me_b H.2.2.2.2.2
  obtain ⟨L0, B1, B2, B3, B4, B5, B6, B7, B8, B9, B10, B11, B12, B13, B14, B15, B16, B17, B18, B19, B20, B21, B22⟩ := bs_b H.1.1
  refine mid_loc H ⟨⟨rfl, rfl, rfl, rfl, rfl, rfl, rfl, rfl, rfl, rfl⟩, rfl, rfl, rfl, rfl, rfl, rfl, fun g1 h1 => ⟨rfl, rfl, rfl, fr_er, fr_er, fr_er, (fr_e4 h1 (by omega) : fr_e 4 g1 (xa_mode u) (upd (xa_mode u) (4 * g + j) p)), fr_er, fr_er, fr_er, fr_er⟩⟩ ⟨rfl, rfl, rfl, fun g1 h1 => ⟨rfl, rfl, rfl, rfl, rfl, rfl, fr_er, fr_er, fr_er, fr_er, fr_er⟩⟩ ⟨L0, B1, B2, B3, B4, B5, B6, B7, B8, B9, B10, B11, B12, B13, B14, B15, B16, B17, B18, B19, B20, B21, B22⟩ (chn_fr H.1.2.2.2.2.2.2.1 rfl rfl rfl rfl rfl rfl) ⟨m1, m2, m3, m4, ?_, (rl_nts_fr rfl m2 fr_er fr_er fr_er fr_er fr_er m6), m7, m8, m9, m10, (rl_nw_fr rfl fr_er m11)⟩
  exact me_low rfl m5 (by omega) (fun i hi => rfl) (fun i hi => (pk_un (by omega) : upd (xa_mode u) (4 * g + j) p (4 * g + i) = xa_mode u (4 * g + i))) (fun i hi => rfl) (fun i hi => rfl) (fun i hi => rfl)
theorem mid_pc {W : Nat} {u : SX} {v : SY} {n S g j : Nat} {p : Int32} (H : rl_mid W u v n S g (j + 1)) : rl_mid W u (ys_pc v (upd (ya_pc v) (4 * g + j) p)) n S g (j + 1) := by
  obtain ⟨m1, m2, m3, m4, m5, m6, m7, m8, m9, m10, m11⟩ := me_b H.2.2.2.2.2
  obtain ⟨L0, B1, B2, B3, B4, B5, B6, B7, B8, B9, B10, B11, B12, B13, B14, B15, B16, B17, B18, B19, B20, B21, B22⟩ := bs_b H.1.1
  refine mid_loc H ⟨⟨rfl, rfl, rfl, rfl, rfl, rfl, rfl, rfl, rfl, rfl⟩, rfl, rfl, rfl, rfl, rfl, rfl, fun g1 h1 => ⟨rfl, rfl, rfl, fr_er, fr_er, fr_er, fr_er, fr_er, fr_er, fr_er, fr_er⟩⟩ ⟨rfl, rfl, rfl, fun g1 h1 => ⟨rfl, rfl, rfl, rfl, rfl, rfl, (fr_e4 h1 (by omega) : fr_e 4 g1 (ya_pc v) (upd (ya_pc v) (4 * g + j) p)), fr_er, fr_er, fr_er, fr_er⟩⟩ ⟨L0, B1, B2, B3, B4, B5, B6, B7, B8, B9, B10, B11, B12, B13, B14, B15, B16, B17, B18, B19, B20, B21, B22⟩ (chn_fr H.1.2.2.2.2.2.2.1 rfl rfl rfl rfl rfl rfl) ⟨m1, m2, m3, m4, ?_, (rl_nts_fr rfl m2 fr_er fr_er fr_er fr_er fr_er m6), m7, m8, m9, m10, (rl_nw_fr rfl fr_er m11)⟩
  exact me_low rfl m5 (by omega) (fun i hi => rfl) (fun i hi => rfl) (fun i hi => (pk_un (by omega) : upd (ya_pc v) (4 * g + j) p (4 * g + i) = ya_pc v (4 * g + i))) (fun i hi => rfl) (fun i hi => rfl)
/-- a panic of the latest activation -/
theorem mid_pan {W : Nat} {u : SX} {v : SY} {n S g j : Nat} {x : Int32} (H : rl_mid W u v n S g (j + 1)) : rl_mid W (xs_panicOf (xs_mode u (upd (xa_mode u) (4 * g + j) 2)) (upd (xa_panicOf u) (4 * g + j) x)) (ys_panicWith (ys_panics v (upd (ya_panics v) (4 * g + j) 1)) (upd (ya_panicWith v) (4 * g + j) x)) n S g (j + 1) := by
  obtain ⟨m1, m2, m3, m4, m5, m6, m7, m8, m9, m10, m11⟩ := me_b H.2.2.2.2.2
  obtain ⟨L0, B1, B2, B3, B4, B5, B6, B7, B8, B9, B10, B11, B12, B13, B14, B15, B16, B17, B18, B19, B20, B21, B22⟩ := bs_b H.1.1
  refine mid_loc H ⟨⟨rfl, rfl, rfl, rfl, rfl, rfl, rfl, rfl, rfl, rfl⟩, rfl, rfl, rfl, rfl, rfl, rfl, fun g1 h1 => ⟨rfl, rfl, rfl, fr_er, fr_er, fr_er, (fr_e4 h1 (by omega) : fr_e 4 g1 (xa_mode u) (upd (xa_mode u) (4 * g + j) 2)), fr_er, fr_er, fr_er, fr_er⟩⟩ ⟨rfl, rfl, rfl, fun g1 h1 => ⟨rfl, rfl, rfl, rfl, rfl, rfl, fr_er, fr_er, (fr_e4 h1 (by omega) : fr_e 4 g1 (ya_panics v) (upd (ya_panics v) (4 * g + j) 1)), fr_er, fr_er⟩⟩ ⟨L0, B1, B2, B3, B4, B5, B6, B7, B8, B9, B10, B11, B12, B13, B14, B15, B16, B17, B18, B19, B20, (show upd (yb_panicWith v) (4 * g + j) x = upd (xb_panicOf u) (4 * g + j) x by rw [B21]), B22⟩ (chn_fr H.1.2.2.2.2.2.2.1 rfl rfl rfl rfl rfl rfl) ⟨m1, m2, m3, m4, ?_, (rl_nts_fr rfl m2 fr_er fr_er fr_er fr_er fr_er m6), m7, m8, m9, m10, (rl_nw_fr rfl fr_er m11)⟩
  exact me_low rfl m5 (by omega) (fun i hi => rfl) (fun i hi => (pk_un (by omega) : upd (xa_mode u) (4 * g + j) 2 (4 * g + i) = xa_mode u (4 * g + i))) (fun i hi => rfl) (fun i hi => rfl) (fun i hi => (pk_un (by omega) : upd (ya_panics v) (4 * g + j) 1 (4 * g + i) = ya_panics v (4 * g + i)))
/-- the latest activation ends -/
theorem mid_pop {W : Nat} {u : SX} {v : SY} {n S g j : Nat} (H : rl_mid W u v n S g (j + 2)) : rl_mid W (xs_depth u (upd (xa_depth u) g (nI (j + 1)))) (ys_depth v (upd (ya_depth v) g (nI (j + 1)))) n S g (j + 1) := by
  obtain ⟨m1, m2, m3, m4, m5, m6, m7, m8, m9, m10, m11⟩ := me_b H.2.2.2.2.2
  obtain ⟨L0, B1, B2, B3, B4, B5, B6, B7, B8, B9, B10, B11, B12, B13, B14, B15, B16, B17, B18, B19, B20, B21, B22⟩ := bs_b H.1.1
  refine mid_loc H ⟨⟨rfl, rfl, rfl, rfl, rfl, rfl, rfl, rfl, rfl, rfl⟩, rfl, rfl, rfl, rfl, rfl, rfl, fun g1 h1 => ⟨rfl, (pk_un h1 : (upd (xa_depth u) g (nI (j + 1))) g1 = xa_depth u g1), rfl, fr_er, fr_er, fr_er, fr_er, fr_er, fr_er, fr_er, fr_er⟩⟩ ⟨rfl, rfl, rfl, fun g1 h1 => ⟨rfl, (pk_un h1 : (upd (ya_depth v) g (nI (j + 1))) g1 = ya_depth v g1), rfl, rfl, rfl, rfl, fr_er, fr_er, fr_er, fr_er, fr_er⟩⟩ ⟨L0, B1, B2, B3, B4, B5, B6, B7, B8, B9, B10, B11, B12, B13, B14, B15, B16, B17, B18, B19, B20, B21, B22⟩ (chn_fr H.1.2.2.2.2.2.2.1 rfl rfl rfl rfl rfl rfl) ⟨by omega, by omega, (pk_us : upd (xa_depth u) g (nI (j + 1)) g = nI (j + 1)), (pk_us : upd (ya_depth v) g (nI (j + 1)) g = nI (j + 1)), rl_low_fr rfl (by omega) fr_er fr_er fr_er fr_er fr_er ⟨m5.1, fun i hi => m5.2 i (by omega)⟩, rl_nts_fr rfl (by omega) fr_er fr_er fr_er fr_er fr_er (fun i hi => m6 i (by omega)), m7, m8, m9, m10, (rl_nw_fr rfl fr_er m11)⟩
/-! what the answers show -/
theorem og_low {u : SX} {v : SY} {n g d : Nat} (L : rl_low u v n g d) (h : xa_mode u (4 * g + d - 1) = 2 ↔ ¬ ya_panics v (4 * g + d - 1) = 0) : ∀ j, j < d → (xa_mode u (4 * g + j) = 2 ↔ ¬ ya_panics v (4 * g + j) = 0) := by
  intro j hj
  by_cases e : j + 1 = d
  · subst e; exact h
  · rcases L.2 j (by omega) with ⟨_, a, b, _⟩ | ⟨_, ⟨a, b⟩ | ⟨a, b⟩⟩
    · rw [a, b]; decide
    · rw [a, b]; decide
    · rw [a, b]; decide
theorem og_go {W : Nat} {u : SX} {v : SY} {n g : Nat} (H : rl_go W u v n g) : rl_og u v g := by
  obtain ⟨d, d4, e1, e2, H⟩ := H
  refine ⟨d, d4, e1, e2, ?_⟩
  rcases H with ⟨h1, h2, h3, h4, h5, h6⟩ | ⟨h1, h2, h3, h4, h5, H⟩
  · exact ⟨Or.inl ⟨h2, h3⟩, fun j hj => by omega⟩
  · refine ⟨?_, og_low h2 (by rw [h4, h5]; decide)⟩
    rcases H with ⟨k1, k2, k3, k4, w, k5, k6, k7, k8, _⟩ | ⟨k1, k2, k3, k4, k5⟩ | ⟨k1, k2, k3, k4, p, k5, k6, k7⟩
    · exact Or.inr (Or.inl ⟨k1, k2, h1, k7.trans k8.symm⟩)
    · exact Or.inr (Or.inr ⟨Or.inr k1, k2⟩)
    · exact Or.inr (Or.inr ⟨Or.inl k1, k2⟩)
theorem og_fr {u u' : SX} {v v' : SY} {g : Nat} (x : fr_gx u u' g) (y : fr_gy v v' g) (H : rl_og u v g) : rl_og u' v' g := by
  obtain ⟨x1, x2, x3, x4, x5, x6, x7, _⟩ := x
  obtain ⟨y1, y2, y3, y4, y5, y6, y7, y8, y9, _⟩ := y
  obtain ⟨d, d4, e1, e2, H, M⟩ := H
  refine ⟨d, d4, x2.trans e1, y2.trans e2, ?_, fun j hj => by rw [x7 j (by omega), y9 j (by omega)]; exact M j hj⟩
  rw [x1, y1]
  rcases H with H | ⟨a, b, c, e⟩ | H
  · exact Or.inl H
  · obtain ⟨j, rfl⟩ : ∃ j, d = j + 1 := ⟨d - 1, by omega⟩
    exact Or.inr (Or.inl ⟨a, b, c, (x6 j (by omega)).trans (e.trans (y7 j (by omega)).symm)⟩)
  · exact Or.inr (Or.inr H)
theorem og_me {u : SX} {v : SY} {n g d : Nat} (M : rl_me u v n g d) (h : xa_mode u (4 * g + d - 1) = 2 ↔ ¬ ya_panics v (4 * g + d - 1) = 0) : rl_og u v g := by
  obtain ⟨m1, m2, m3, m4, m5, m6, m7, m8, m9, m10, m11⟩ := M
  exact ⟨d, m2, m3, m4, Or.inr (Or.inr ⟨Or.inl m7, m8⟩), og_low m5 h⟩
/-- the end of the program shows what the relation keeps -/
theorem ob_mid {W : Nat} {u u' : SX} {v v' : SY} {n S g d : Nat} (H : rl_mid W u v n S g d) (e1 : xa_goroutineCount u' = xb_goroutineCount u) (e2 : xa_channelCount u' = xb_channelCount u) (x : ∀ g', ¬ g' = g → fr_gx u u' g') (y : ∀ g', ¬ g' = g → fr_gy v v' g') (G : rl_og u' v' g) : rl_obs u' v' := by
  obtain ⟨⟨b1, b2, b3, b4, b5, b6, ⟨c, c8, ec, _⟩, b8, b9, b10⟩, _⟩ := H
  refine ⟨S, c, b3, e1.trans b5, c8, e2.trans ec, fun q hq => ?_⟩
  by_cases e : q = g
  · subst e; exact G
  · exact og_fr (x q e) (y q e) (og_go (b10 q hq (fun z => e (by injection z))))
def rl_off (W : Nat) (u : SX) (v : SY) : Prop := ∃ n S, rl_co W none u v n S ∧ xa_running u = -1 ∧ ya_off v = 1 ∧ xa_state u = 1
def rl_done (u : SX) (v : SY) : Prop := rl_base u v ∧ rl_obs u v ∧ ¬ xa_state u = 1
def rl_out (W : Nat) (st : Nat → Int32) (g : Nat) (u : SX) (v : SY) : Prop := (rl_rest W u v ∧ xa_state u = 1) ∨ (rl_off W u v ∧ ya_status v = upd st g 3) ∨ rl_done u v
/-- the running goroutine stops -/
theorem co_off {W W' : Nat} {u u' : SX} {v v' : SY} {n S g d : Nat} (H : rl_mid W u v n S g d) (hW : W ≤ W') (f : fr_sx u u') (x : ∀ g', ¬ g' = g → fr_gx u u' g') (y : ∀ g', ¬ g' = g → fr_gy v v' g') (B : rl_base u' v') (C : rl_chn u' v') (e5 : xa_goroutineCount u' = xb_goroutineCount u) (Q : rl_que u' v' S none) (t : rl_tm W' u') (G : rl_go W' u' v' n g) : rl_co W' none u' v' n S := by
  obtain ⟨⟨b1, b2, b3, b4, b5, b6, b7, b8, b9, b10⟩, c1, _⟩ := H
  refine ⟨B, sx_fr f b2, b3, b4, e5.trans b5, fun q h1 h2 => ?_, C, Q, t, fun q hq _ => ?_⟩
  · obtain ⟨y1, y2, y3, y4, _⟩ := y q (by omega)
    rw [y1, y2, y3, y4]
    exact b6 q h1 h2
  · by_cases e : q = g
    · subst e; exact G
    · exact rl_go_up hW (rl_go_fr f b2.2.2.2.1 (x q e) (y q e) (b10 q hq (fun z => e (by injection z))))
theorem que_off {u u' : SX} {v v' : SY} {S g : Nat} (H : rl_que u v S (some g)) (e1 : xa_queueLength u' = xb_queueLength u) (e2 : xa_queue u' = xb_queue u) (e3 : ya_queue v' = yb_queue v) (e4 : ∀ g', ¬ g' = g → ya_status v' g' = yb_status v g') (e5 : ¬ ya_status v' g = 1) : rl_que u' v' S none := by
  obtain ⟨Q, q1, q2, q3, q4⟩ := H
  refine ⟨Q, q1, e1.trans q2, by rw [e2, e3]; exact q3, fun q => ?_⟩
  rw [q4 q]
  by_cases e : q = g
  · subst e
    exact ⟨fun z => absurd rfl z.2.2, fun z => absurd z.2.1 e5⟩
  · rw [e4 q e]
    exact ⟨fun z => ⟨z.1, z.2.1, by simp⟩, fun z => ⟨z.1, z.2.1, fun w => e (by injection w)⟩⟩
