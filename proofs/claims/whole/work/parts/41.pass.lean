/-! time passes: both -/
theorem go_nw {W : Nat} {u : SX} {v : SY} {n g : Nat} (G : rl_go W u v n g) (h : ¬ xa_waitUntil u g = -1) : xa_status u g = 2 := by
  obtain ⟨d, d4, e1, e2, H⟩ := G
  rcases H with ⟨h1, h2, h3, h4, h5, h6⟩ | ⟨h1, h2, h3, h4, h5, H⟩
  · exact absurd h4.1 h
  · rcases H with ⟨k1, k2, k3, k4, k5⟩ | ⟨k1, k2, k3, k4, k5⟩ | ⟨k1, k2, k3, k4, p, k5, k6, k7⟩
    · exact k1
    · exact absurd k5.1 h
    · exact absurd k4.1 h
theorem pt_of {W : Nat} {r : Option Nat} {u : SX} {v : SY} {n S : Nat} (H : rl_co W r u v n S) (hr : r = none) : pt_R (xa_waitUntil u) v (W * 2 ^ 31) S := by
  subst hr
  refine ⟨fun g hg => ?_, fun g h1 h2 => ?_⟩
  · obtain ⟨d, d4, e1, e2, G⟩ := H.2.2.2.2.2.2.2.2.2 g hg (by simp)
    rcases G with ⟨h1, h2, h3, h4, h5, h6⟩ | ⟨h1, h2, h3, h4, h5, G⟩
    · exact Or.inr ⟨by rw [h3]; decide, h4.1⟩
    · rcases G with ⟨k1, k2, k3, k4, w, z1, z2, z3, z4, z5, z6, z7, z8⟩ | ⟨k1, k2, k3, k4, k5⟩ | ⟨k1, k2, k3, k4, p, k5, k6, k7⟩
      · refine Or.inl ⟨k2, z6, ?_⟩
        rcases z7 with ⟨z, _⟩ | ⟨s, s1, s2, _⟩
        · exact Or.inl z
        · exact Or.inr ⟨s, s1, s2⟩
      · exact Or.inr ⟨by rw [k2]; decide, k5.1⟩
      · exact Or.inr ⟨by rw [k2]; decide, k4.1⟩
  · have := (H.2.2.2.2.2.1 g h1 h2).1
    rw [this]; decide
theorem xl_wu {post : Int32 → Prop} {u : SX} {S : Nat} {e : Int64} (hS : S ≤ 12) (eS : xa_goroutineCount u = nI S) (h : post (oI (pt_b (xa_waitUntil u) (xa_waitOrder u) e S))) : wpX_longestWaitingUntil post u e := by
  rw [ux_longestWaitingUntil]
  exact ⟨S + 1, xp_5 hS eS h S 0 (by omega) (S + 1) (by omega)⟩
theorem yl_wu {post : SY → Prop} {v : SY} {wu : Nat → Int64} {M S i m : Nat} {e : Int64} (hi : i < 12) (hS : S ≤ 12) (R : pt_R wu v M S) (he : ¬ e = -1)
    (h0 : pt_b wu (ya_since v) e S = none → cy_passTime_77 post e m (nI (i + 1)) v) (h1 : ∀ b, pt_b wu (ya_since v) e S = some b → wpY_late (fun u8 => cy_passTime_77 post e m (nI (i + 1)) u8) v (nI b)) : cy_passTime_77 post e (m + 1) (nI i) v := by
  rw [uy_passTime_77]
  refine br_f (nI_ge (b := 12) hi (by decide)) ⟨13, ?_⟩
  have key := yp_89 (post := post) (J := cy_passTime_77 post e m) (v := v) (wu := wu) (M := M) (x3 := nI i) hS R he (fun z => nm_r (nI_1 _) (h0 z)) (fun b z => by
    have h2 := h1 b z
    have e2 : (fun u8 => ∀ x, x = nI i + 1 → cy_passTime_77 post e m x u8) = fun u8 => cy_passTime_77 post e m (nI (i + 1)) u8 := by
      funext u8
      rw [nI_1]
      exact propext ⟨fun z => z _ rfl, fun z x hx => by rw [hx]; exact z⟩
    rw [e2]; exact h2) 12 0 (by omega) 13 (by omega)
  rw [if_pos (Nat.zero_le _)] at key
  exact key
theorem yl_late {post : SY → Prop} {v : SY} {n g j w f L : Nat} (T : sy_st v n) (hg : g < 12) (j4 : j < 4) (hd : ya_depth v g = nI (j + 1)) (hpc : ya_pc v (4 * g + j) = nI w) (hw : w < n) (hL : ya_queued v = nI L) (L12 : L < 12) (hf : f + 1 < n)
    (hk : (ya_kind v w = 28 ∧ f = w) ∨ (ya_kind v w = 6 ∧ f < n ∧ (st_s (ya_kind v) f).head? = some w ∧ ya_kind v f = 29)) (h : post (yr_s (ys_resume v (upd (ya_resume v) g (nI (f + 1)))) g L)) : wpY_late post v (nI g) := by
  have n60 := T.2.1.1
  have cw : (nI w).toNatClampNeg = w := nI_clamp (by omega)
  have vw : vp_in (nI w) 60 := vp_in_nI (by omega) (by decide)
  have fin : cy_late_52 post (nI g) (nI f) v := by
    rw [uy_late_52]
    exact yw_p hg (by omega) hL L12 h
  rw [uy_late]
  refine yg_topOf (d := j + 1) hg (by omega) hd ?_
  rw [show 4 * g + (j + 1) - 1 = 4 * g + j from rfl, nI_clamp (show 4 * g + j < 2 ^ 31 by omega)]
  refine ⟨vp_in_nI (by omega) (by decide), nm_r hpc ?_⟩
  rw [cw]
  refine ⟨vw, ?_⟩
  rcases hk with ⟨k, e⟩ | ⟨k, f1, f2, f3⟩
  · subst e
    exact br_f (by rw [k]; decide) fin
  · refine br_t k (yl_aft T hw k f1 f2 f3 fin (f - w) w (Or.inl rfl) (al_in T.2.1 f1 f2 (by rw [f3]; decide)).1 (Nat.le_refl _) _ (fun r hr => ⟨_, hr⟩))
theorem co_wk {W : Nat} {r : Option Nat} {u : SX} {v : SY} {n S g j f L : Nat} (H : rl_co W r u v n S) (hg : g < S) (hr : ¬ some g = r) (hs : xa_status u g = 2) (hd : xa_depth u g = nI (j + 1)) (j4 : j < 4) (hL : xa_queueLength u = nI L) (L12 : L < 12) (hf : f + 1 < n) :
    rl_co W r (xw_s u g (4 * g + j) (nI (f + 1)) 0 L) (yr_s (ys_resume v (upd (ya_resume v) g (nI (f + 1)))) g L) n S := by
  have B18 := H.1.2.2.2.2.2.2.2.2.2.2.2.2.2.2.2.2.2.2.1
  have key := co_wake (V := xa_variables u) H hg hr hs hd j4 hL L12 hf (fun g1 h1 => fr_er)
  rw [xv_id, ← B18, yv_id] at key
  exact key
theorem xw_f {u : SX} {g t L : Nat} {p st : Int32} : xa_running (xw_s u g t p st L) = xa_running u ∧ xa_state (xw_s u g t p st L) = xa_state u ∧ xa_time (xw_s u g t p st L) = xa_time u := ⟨rfl, rfl, rfl⟩
theorem pt_loop {W n S : Nat} {e : Int64} (hW : W * 2 ^ 31 < 2 ^ 63) (he : ¬ e = -1) : ∀ d i u v, i + d = 12 → rl_co W none u v n S →
    ∃ u' v', (∀ (P : SX → Prop) m, d < m → P u' → cx_passTime_75 P e m (nI i) u) ∧ (∀ (P : SY → Prop) m, d < m → P v' → cy_passTime_77 P e m (nI i) v) ∧ rl_co W none u' v' n S ∧ xa_running u' = xa_running u ∧ xa_state u' = xa_state u ∧ ya_off v' = ya_off v ∧ ∀ g, (ya_status v' g = 3 ↔ ya_status v g = 3) := by
  intro d
  induction d with
  | zero =>
    intro i u v hi H
    refine ⟨u, v, fun P m hm p => ?_, fun P m hm p => ?_, H, rfl, rfl, rfl, fun g => Iff.rfl⟩
    · obtain ⟨m, rfl⟩ : ∃ q, m = q + 1 := ⟨m - 1, by omega⟩
      rw [ux_passTime_75]
      exact br_t (nI_le (a := 12) (by omega) (by omega)) p
    · obtain ⟨m, rfl⟩ : ∃ q, m = q + 1 := ⟨m - 1, by omega⟩
      rw [uy_passTime_77]
      exact br_t (nI_le (a := 12) (by omega) (by omega)) p
  | succ d ih =>
    intro i u v hi H
    obtain ⟨b1, b2, b3, b4, b5, b6, b7, b8, b9, b10⟩ := id H
    have B22 : ya_since v = xa_waitOrder u := b1.2.2.2.2.2.2.2.2.2.2.2.2.2.2.2.2.2.2.2.2.2.2
    have B1 : ya_kind v = xa_kinds u := b1.2.1
    have B17 : ya_queued v = xa_queueLength u := b1.2.2.2.2.2.2.2.2.2.2.2.2.2.2.2.2.2.1
    have R := pt_of H rfl
    have TY := sy_bs b1 b2
    cases q : pt_b (xa_waitUntil u) (xa_waitOrder u) e S with
    | none =>
      obtain ⟨u', v', i1, i2, i3⟩ := ih (i + 1) u v (by omega) H
      refine ⟨u', v', fun P m hm p => ?_, fun P m hm p => ?_, i3⟩
      · obtain ⟨m, rfl⟩ : ∃ q, m = q + 1 := ⟨m - 1, by omega⟩
        rw [ux_passTime_75]
        refine br_f (nI_ge (b := 12) (by omega) (by decide)) (xl_wu b3 b5 ?_)
        rw [q]
        exact br_t rfl (nm_r (nI_1 _) (i1 P m (by omega) p))
      · obtain ⟨m, rfl⟩ : ∃ q, m = q + 1 := ⟨m - 1, by omega⟩
        refine yl_wu (by omega) b3 R he (fun _ => i2 P m (by omega) p) (fun b z => ?_)
        rw [B22, q] at z; cases z
    | some b =>
      have bi := pt_bin S b q
      have w1 : ¬ xa_waitUntil u b = -1 := by rw [bi.2]; exact he
      have G := b10 b bi.1 (by simp)
      have st := go_nw G w1
      obtain ⟨d', g1, g2, g3, g4, g5, g6, g7, g8, g9, g10, g11, w, z1, z2, z3, z4, z5, z6, z7, z8⟩ := go_wait G st
      obtain ⟨j, rfl⟩ : ∃ j, d' = j + 1 := ⟨d' - 1, by omega⟩
      obtain ⟨L, L12, eL⟩ := que_len b8 b3 bi.1 (fun z => absurd (g9.symm.trans z.1) (by decide))
      have z3 : xa_position u (4 * b + j) = nI w := z3
      have z4 : ya_pc v (4 * b + j) = nI w := z4
      have n60 := b2.2.1.1
      have ex : ∃ f, f < n ∧ f + 1 < n ∧ ((xa_kinds u w = 28 ∧ f = w) ∨ (xa_kinds u w = 6 ∧ f < n ∧ (st_s (xa_kinds u) f).head? = some w ∧ xa_kinds u f = 29)) := by
        rcases z7 with ⟨z, _⟩ | ⟨s, s1, s2, k | ⟨k, f, f1, f2, f3⟩⟩
        · exact absurd z w1
        · exact ⟨w, z1, st_nx b2.2.1 z1 (by rw [k]; decide), Or.inl ⟨k, rfl⟩⟩
        · exact ⟨f, f1, st_nx b2.2.1 f1 (by rw [f3]; decide), Or.inr ⟨k, f1, f2, f3⟩⟩
      obtain ⟨f, f1, f2, f3⟩ := ex
      obtain ⟨u', v', i1, i2, i3, i4, i5, i6, i7⟩ := ih (i + 1) _ _ (by omega) (co_wk (f := f) H bi.1 (by simp) st g3 (by omega) eL L12 f2)
      refine ⟨u', v', fun P m hm p => ?_, fun P m hm p => ?_, i3, i4, i5, i6, fun g => ?_⟩
      · obtain ⟨m, rfl⟩ : ∃ q, m = q + 1 := ⟨m - 1, by omega⟩
        have cw : (nI w).toNatClampNeg = w := nI_clamp (by omega)
        have fin : cx_passTime_127 P (cx_passTime_75 P e m) e (nI i) (nI b) (nI f) u := by
          rw [ux_passTime_127]
          refine xw_p (d := j + 1) (by omega) (by omega) g2 g3 eL L12 ?_
          exact nm_r (nI_1 _) (i1 P m (by omega) p)
        rw [ux_passTime_75]
        refine br_f (nI_ge (b := 12) (by omega) (by decide)) (xl_wu b3 b5 ?_)
        rw [q]
        refine br_f (ne_m1 (by omega)) (xg_topOf (d := j + 1) (by omega) (by omega) g3 ?_)
        rw [show 4 * b + (j + 1) - 1 = 4 * b + j from rfl, nI_clamp (show 4 * b + j < 2 ^ 31 by omega)]
        refine ⟨vp_in_nI (by omega) (by decide), nm_r z3 ?_⟩
        rw [cw]
        refine ⟨vp_in_nI (by omega) (by decide), ?_⟩
        rcases f3 with ⟨k, e⟩ | ⟨k, f4, f5, f6⟩
        · subst e
          exact br_f (by rw [k]; decide) fin
        · refine br_t k (xa_alt b2 z1 k (fun j' hj' => ?_) (fun no => ?_))
          · have : j' = f := al_u b2.2.2.2.1 hj' ⟨f4, f5, by rw [f6]; decide⟩
            rw [this]; exact fin
          · exact absurd ⟨f4, f5, by rw [f6]; decide⟩ (no f)
      · obtain ⟨m, rfl⟩ : ∃ q, m = q + 1 := ⟨m - 1, by omega⟩
        refine yl_wu (by omega) b3 R he (fun z => ?_) (fun b' z => ?_)
        · rw [B22, q] at z; cases z
        · rw [B22, q] at z
          injection z with z
          subst z
          rw [← B1] at f3
          exact yl_late TY (by omega) (by omega) g4 z4 z1 (B17.trans eL) L12 f2 f3 (i2 P m (by omega) p)
      · rw [i7 g]
        have : ya_status (yr_s (ys_resume v (upd (ya_resume v) b (nI (f + 1)))) b L) g = upd (ya_status v) b 1 g := rfl
        rw [this]
        by_cases c : g = b
        · subst c
          rw [pk_us, g9]; decide
        · rw [pk_un c]
theorem co_time {W : Nat} {u : SX} {v : SY} {n S s : Nat} (H : rl_co W none u v n S) (hs : s ≤ W * 2 ^ 31) : rl_co W none (xs_time u (lN s)) (ys_clock v (lN s)) n S := by
  obtain ⟨b1, b2, b3, b4, b5, b6, b7, b8, ⟨w, s', t1, t2, t3, t4⟩, b10⟩ := H
  obtain ⟨L0, B1, B2, B3, B4, B5, B6, B7, B8, B9, B10, B11, B12, B13, B14, B15, B16, B17, B18, B19, B20, B21, B22⟩ := bs_b b1
  exact ⟨⟨L0, B1, B2, B3, B4, B5, B6, rfl, B8, B9, B10, B11, B12, B13, B14, B15, B16, B17, B18, B19, B20, B21, B22⟩, sx_fr ⟨rfl, rfl, rfl, rfl, rfl, rfl, rfl, rfl, rfl, rfl⟩ b2, b3, b4, b5, b6, chn_fr b7 rfl rfl rfl rfl rfl rfl, b8, ⟨w, s, t1, t2, hs, rfl⟩, fun q hq hr => rl_go_fr ⟨rfl, rfl, rfl, rfl, rfl, rfl, rfl, rfl, rfl, rfl⟩ b2.2.2.2.1 ⟨rfl, rfl, rfl, fr_er, fr_er, fr_er, fr_er, fr_er, fr_er, fr_er, fr_er⟩ ⟨rfl, rfl, rfl, rfl, rfl, rfl, fr_er, fr_er, fr_er, fr_er, fr_er⟩ (b10 q hq hr)⟩
theorem pt_all {W : Nat} {u : SX} {v : SY} {n S : Nat} (H : rl_co W none u v n S) (hW : W * 2 ^ 31 < 2 ^ 63) :
    ∃ u' v', (∀ P : SX → Prop, P u' → wpX_passTime P u) ∧ (∀ P : SY → Prop, P v' → wpY_passTime P v) ∧ rl_co W none u' v' n S ∧ xa_running u' = xa_running u ∧ xa_state u' = xa_state u ∧ ya_off v' = ya_off v ∧ ∀ g, (ya_status v' g = 3 ↔ ya_status v g = 3) := by
  have R := pt_of H rfl
  have hS := H.2.2.1
  have eS := H.2.2.2.2.1
  have xx : ∀ P : SX → Prop, (pt_e (xa_waitUntil u) S = -1 → P u) → (¬ pt_e (xa_waitUntil u) S = -1 → ∃ m, cx_passTime_75 P (pt_e (xa_waitUntil u) S) m 0 (xs_time u (pt_e (xa_waitUntil u) S))) → wpX_passTime P u := by
    intro P h1 h2
    rw [ux_passTime]
    exact ⟨S + 1, xp_6 hS eS h1 h2 S 0 (by omega) (S + 1) (by omega)⟩
  have yy : ∀ P : SY → Prop, (pt_e (xa_waitUntil u) S = -1 → P v) → (¬ pt_e (xa_waitUntil u) S = -1 → ∃ m, cy_passTime_77 P (pt_e (xa_waitUntil u) S) m 0 (ys_clock v (pt_e (xa_waitUntil u) S))) → wpY_passTime P v := by
    intro P h1 h2
    rw [uy_passTime]
    have key := yp_6 hS hW R h1 h2 12 0 (by omega) 13 (by omega)
    rw [if_pos (Nat.zero_le _)] at key
    exact ⟨13, key⟩
  rcases pt_ok (pt_Rok R) S (Nat.le_refl _) with z | ⟨s, s1, z⟩
  · exact ⟨u, v, fun P p => xx P (fun _ => p) (fun y => absurd z y), fun P p => yy P (fun _ => p) (fun y => absurd z y), H, rfl, rfl, rfl, fun g => Iff.rfl⟩
  · have nz : ¬ pt_e (xa_waitUntil u) S = -1 := by rw [z]; exact lN_n1 (by omega)
    rw [z] at xx yy nz
    obtain ⟨u', v', i1, i2, i3⟩ := pt_loop hW nz 12 0 _ _ (by omega) (co_time H s1)
    exact ⟨u', v', fun P p => xx P (fun y => absurd y nz) (fun _ => ⟨13, i1 P 13 (by omega) p⟩), fun P p => yy P (fun y => absurd y nz) (fun _ => ⟨13, i2 P 13 (by omega) p⟩), i3⟩
