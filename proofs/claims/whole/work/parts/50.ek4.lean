/-! GO, SLEEP -/
def xn_1 (u : SX) (S : Nat) : SX := xs_depth (xs_status (xs_goroutineCount u (nI (S + 1))) (upd (xa_status u) S 0)) (upd (xa_depth u) S 0)
def xn_2 (u : SX) (S : Nat) : SX := xs_slotWish (xs_waitUntil (xn_1 u S) (vp_updL (xa_waitUntil u) S (-1))) (rl_fw (xa_slotWish u) S)
def xn_3 (u : SX) (S q p : Nat) (x y : Int32) : SX := xs_variables (xe_w (xn_2 u S) S 0 q) (rl_ev (xa_variables u) (4 * S + 0) p x y)
def xn_4 (u : SX) (S q p L : Nat) (x y : Int32) : SX := xs_queue (xs_queueLength (xn_3 u S q p x y) (nI (L + 1))) (upd (xa_queue u) L (nI S))
def yn_4 (v : SY) (S q p L : Nat) (x y : Int32) : SY := yr_s (ye_s (ys_started v (nI (S + 1))) S 0 q p x y) S L
theorem que_S {u : SX} {v : SY} {S : Nat} {r : Option Nat} (H : rl_que u v S r) (h : ya_status v S = 0) : rl_que u v (S + 1) r := by
  obtain ⟨Q, q1, q2, q3, q4⟩ := H
  refine ⟨Q, q1, q2, q3, fun g => ?_⟩
  rw [q4 g]
  constructor
  · rintro ⟨a, b⟩
    exact ⟨by omega, b⟩
  · rintro ⟨a, b, c⟩
    refine ⟨?_, b, c⟩
    by_cases e : g = S
    · subst e; rw [h] at b; exact absurd b (by decide)
    · omega
theorem mid_new {W : Nat} {u : SX} {v : SY} {n S g j q p L : Nat} {x y : Int32} (H : rl_mid W u v n S g (j + 1)) (S12 : S < 12) (eL : xa_queueLength u = nI L) (L12 : L < 12) (hq : q < n) (kq : xa_kinds u q = 0) : rl_mid W (xn_4 u S q p L x y) (yn_4 v S q p L x y) n (S + 1) g (j + 1) := by
  obtain ⟨L0, B1, B2, B3, B4, B5, B6, B7, B8, B9, B10, B11, B12, B13, B14, B15, B16, B17, B18, B19, B20, B21, B22⟩ := bs_b H.1.1
  obtain ⟨⟨b1, b2, b3, b4, b5, b6, b7, b8, b9, b10⟩, c1, c2, c3, c4, c5⟩ := id H
  have f0 := b6 S (Nat.le_refl _) S12
  have gx : ∀ g1, ¬ g1 = S → fr_gx u (xn_4 u S q p L x y) g1 := fun g1 h1 => ⟨(pk_un h1 : (upd (xa_status u) S 0) g1 = xa_status u g1), (show upd (upd (xa_depth u) S 0) S (nI (0 + 1)) g1 = xa_depth u g1 by rw [pk_un h1, pk_un h1]), (pk_uLn h1 : (vp_updL (xa_waitUntil u) S (-1)) g1 = xa_waitUntil u g1), (fr_fw h1 : fr_e 3 g1 (xa_slotWish u) (rl_fw (xa_slotWish u) S)), fr_er, (fr_e4 h1 (by decide) : fr_e 4 g1 (xa_position u) (upd (xa_position u) (4 * S + 0) (nI q))), (fr_e4 h1 (by decide) : fr_e 4 g1 (xa_mode u) (upd (xa_mode u) (4 * S + 0) 0)), (fr_e4 h1 (by decide) : fr_e 4 g1 (xa_noteCount u) (upd (xa_noteCount u) (4 * S + 0) 0)), fr_er, fr_er, (fr_ev h1 (by decide) : fr_e 24 g1 (xa_variables u) (rl_ev (xa_variables u) (4 * S + 0) p x y))⟩
  have gy : ∀ g1, ¬ g1 = S → fr_gy v (yn_4 v S q p L x y) g1 := fun g1 h1 => ⟨(pk_un h1 : (upd (ya_status v) S 1) g1 = ya_status v g1), (pk_un h1 : (upd (ya_depth v) S (nI (0 + 1))) g1 = ya_depth v g1), rfl, rfl, rfl, rfl, (fr_e4 h1 (by decide) : fr_e 4 g1 (ya_pc v) (upd (ya_pc v) (4 * S + 0) (nI q))), (fr_e4 h1 (by decide) : fr_e 4 g1 (ya_asNote v) (upd (ya_asNote v) (4 * S + 0) 0)), (fr_e4 h1 (by decide) : fr_e 4 g1 (ya_panics v) (upd (ya_panics v) (4 * S + 0) 0)), fr_er, fr_er⟩
  have sx : fr_sx u (xn_4 u S q p L x y) := ⟨rfl, rfl, rfl, rfl, rfl, rfl, rfl, rfl, rfl, rfl⟩
  have gS : ¬ g = S := by omega
  have nq : ¬ (ya_status v S = 1 ∧ ¬ some S = some g) := fun z => absurd (f0.1.symm.trans z.1) (by decide)
  refine ⟨⟨⟨L0, B1, B2, B3, B4, B5, B6, B7, B8, B9, B10, B11, B12, B13, B14, rfl, B16, rfl, (show rl_ev (yb_vars v) (4 * S + 0) p x y = rl_ev (xb_variables u) (4 * S + 0) p x y by rw [B18]), (show upd (yb_noted v) (4 * S + 0) 0 = upd (xb_noteCount u) (4 * S + 0) 0 by rw [B19]), B20, B21, B22⟩, sx_fr sx b2, by omega, by omega, rfl, fun q' h1 h2 => ?_, chn_fr b7 rfl rfl rfl rfl rfl rfl, que_add (que_S b8 f0.1) (by omega) (by omega) nq eL L12 rfl rfl rfl ⟨(pk_us : upd (ya_status v) S 1 S = 1), fun z => gS (by injection z with z; exact z.symm)⟩ (fun q' h1 h2 => ?_), tm_fr b9 rfl rfl, fun q' h1 h2 => ?_⟩, by omega, (c2 : xb_running u = nI g), (c3 : yb_now v = nI g), (c4 : yb_off v = 0), rl_me_fr sx (gx g gS) (gy g gS) c5⟩
  · obtain ⟨y1, y2, y3, y4, _⟩ := gy q' (by omega)
    rw [y1, y2, y3, y4]
    exact b6 q' (by omega) h2
  · rw [(gy q' h1).1]; exact Iff.rfl
  · by_cases e : q' = S
    · subst e
      refine ⟨1, by omega, (pk_us : upd (upd (xa_depth u) q' 0) q' (nI (0 + 1)) q' = nI 1), (pk_us : upd (ya_depth v) q' (nI (0 + 1)) q' = nI 1), Or.inr ⟨by omega, ⟨(pk_us : upd (ya_asNote v) (4 * q' + 0) 0 (4 * q' + 0) = 0), fun i hi => by omega⟩, fun i hi => ⟨0, by omega, ?_, fun i hi => by omega⟩, (pk_us : upd (xa_mode u) (4 * q' + 0) 0 (4 * q' + 0) = 0), (pk_us : upd (ya_panics v) (4 * q' + 0) 0 (4 * q' + 0) = 0), Or.inr (Or.inr ⟨(pk_us : upd (xa_status u) q' 0 q' = 0), (pk_us : upd (ya_status v) q' 1 q' = 1), (f0.2.2.2 : yb_shocked v q' = 0), fw_nw (pk_uLs : vp_updL (xa_waitUntil u) q' (-1) q' = -1) rfl, q, hq, (pk_us : upd (xa_position u) (4 * q' + 0) (nI q) (4 * q' + 0) = nI q), Or.inr ⟨(f0.2.2.1 : yb_resume v q' = -1), (pk_us : upd (ya_pc v) (4 * q' + 0) (nI q) (4 * q' + 0) = nI q), ?_⟩⟩)⟩⟩
      · have i0 : i = 0 := by omega
        subst i0
        exact (pk_us : upd (xa_noteCount u) (4 * q' + 0) 0 (4 * q' + 0) = 0)
      · show ¬ st_mk (xa_kinds u q)
        rw [kq]; decide
    · exact rl_go_fr sx b2.2.2.2.1 (gx q' e) (gy q' e) (b10 q' (by omega) h2)
theorem xn_p {post : SX → Prop} {u : SX} {S f q p L : Nat} {x y : Int32} (S12 : S < 12) (eS : xa_goroutineCount u = nI S) (f30 : f < 30) (fl : xa_functionLine u f = nI q) (q60 : q < 60) (ep : xa_argA u q = nI p) (p3 : p < 3) (eL : xa_queueLength u = nI L) (L12 : L < 12) (h : post (xn_4 u S q p L x y)) : wpX_startGoroutine (fun r_2 u3 => wpX_enqueue post u3 r_2) u (nI f) x y := by
  have vS : vp_in (nI S) 12 := vp_in_nI S12 (by decide)
  rw [ux_startGoroutine, eS, nI_clamp (show S < 2 ^ 31 by omega), nI_1]
  refine nm_e ⟨vS, nm_e ⟨vS, nm_e (xf_forget (u := xn_1 u S) S12 ?_)⟩⟩
  refine xe_enter (u := xn_2 u S) (d := 0) S12 (by decide) (pk_us : upd (xa_depth u) S 0 S = 0) f30 fl q60 ep p3 ?_
  have eL' : xa_queueLength (xn_3 u S q p x y) = nI L := eL
  show wpX_enqueue post (xn_3 u S q p x y) (nI S)
  rw [ux_enqueue, eL', nI_clamp (show L < 2 ^ 31 by omega), nI_1]
  exact ⟨vp_in_nI L12 (by decide), nm_e (nm_e h)⟩
theorem ek_14 {W : Nat} {u : SX} {v : SY} {n S g j i : Nat} (E : ex_at W u v n S g j i) (k : xa_kinds u i = 14) : ex_x W u v g i := by
  obtain ⟨hg, j4, hr, d1, d2, i60, T, TY⟩ := at_f E
  obtain ⟨B1, B2, ea, eb, ec⟩ := at_e E
  obtain ⟨H, s, hm, hp, hx, hy, hi⟩ := id E
  obtain ⟨Hw, pw⟩ := at_w (q := i + 1) E
  have kY : ya_kind v i = 14 := by rw [B1]; exact k
  have B15 : ya_started v = xa_goroutineCount u := H.1.1.2.2.2.2.2.2.2.2.2.2.2.2.2.2.2.1
  have B17 : ya_queued v = xa_queueLength u := H.1.1.2.2.2.2.2.2.2.2.2.2.2.2.2.2.2.2.2.1
  have nx := st_nx T.2.1 hi (by rw [k]; decide)
  obtain ⟨f, q, p, f30, ef, hf, q1, q2, q3, fl, ep, p3⟩ := fn_line T hi (by rw [k]; decide)
  have n60 := T.2.1.1
  have hS := H.1.2.2.1
  have eS := H.1.2.2.2.2.1
  have eSw : xa_goroutineCount (xs_position u (upd (xa_position u) (4 * g + j) (nI (i + 1)))) = nI S := eS
  by_cases s12 : S = 12
  · refine ex_pa (x := -2) Hw s (fun P q => xx_14 hg j4 hr d1 hx i60 k ?_) (fun P q => yy_14 hg j4 d2 i60 kY (fun _ => q) (fun z => absurd (show ya_started v = 12 by rw [B15, eS, s12]; rfl) z))
    rw [ux_startAnother, eSw, s12]
    exact br_f (by decide) q
  · have S12 : S < 12 := by omega
    obtain ⟨L, L12, eL⟩ := que_len (g := g) H.1.2.2.2.2.2.2.2.1 hS H.2.1 (fun z => z.2 rfl)
    have s12' : ¬ ya_started v = 12 := fun z => by
      rw [B15, eS] at z
      exact s12 ((nI_eq (b := 12) (by omega) (by decide)).mp z)
    refine ex_go (mid_new (x := rl_val (xa_variables u) (4 * g + j) (xa_argB u i)) (y := rl_val (xa_variables u) (4 * g + j) (xa_argC u i)) (p := p) Hw S12 eL L12 q1 q2) s ?_ ?_ ?_ nx nx rfl (fun P qq => xx_14 hg j4 hr d1 hx i60 k ?_) (fun P qq => yy_14 hg j4 d2 i60 kY (fun z => absurd z s12') (fun _ => ?_))
    · exact (pk_un (by have := H.2.1; omega) : upd (xa_mode u) (4 * S + 0) 0 (4 * g + j) = _).trans hm
    · exact (pk_un (by have := H.2.1; omega) : upd (ya_panics v) (4 * S + 0) 0 (4 * g + j) = _).trans hp
    · exact (pk_un (by have := H.2.1; omega) : upd (upd (xa_position u) (4 * g + j) (nI (i + 1))) (4 * S + 0) (nI q) (4 * g + j) = _).trans pw
    · rw [ux_startAnother, eSw, ef]
      exact br_t (nI_lt (b := 12) S12 (by decide)) (xn_p (u := xs_position u (upd (xa_position u) (4 * g + j) (nI (i + 1)))) S12 eS f30 fl (by omega) ep p3 eL L12 qq)
    · rw [eb, ec, B2, ef, uy_start, B15, eS]
      have dS := (H.1.2.2.2.2.2.1 S (Nat.le_refl _) S12).2.1
      refine nm_r (nI_1 _) (ye_enter (v := ys_started v (nI (S + 1))) (n := n) TY S12 (by decide) dS (show f < st_f (ya_kind v) n by rw [B1]; exact hf) (fun q' p' a1 a2 a3 a4 a5 => ?_))
      have a2 : ya_kind v q' = 0 := a2
      have a3 : st_f (ya_kind v) q' = f := a3
      have a4 : ya_opA v q' = nI p' := a4
      rw [B1] at a2 a3
      rw [B2] at a4
      have e1 : q' = q := (st_fl_eq a2 a3 n a1).symm.trans (st_fl_eq q2 q3 n q1)
      subst e1
      rw [ep] at a4
      have e2 : p = p' := (nI_eq (by omega) (by omega)).mp a4
      subst e2
      exact yr_p S12 (B17.trans eL : ya_queued v = nI L) L12 qq
theorem xsl_id {w : SX} : xs_slotLine (xs_slotWish w (xa_slotWish w)) (xa_slotLine w) = w := rfl
theorem lN_a {s : Nat} {a : Int32} (h : ¬ a ≤ 0) : ∃ k, k < 2 ^ 31 ∧ lN s + a.toInt64 = lN (s + k) := by
  obtain ⟨k, k1, k2⟩ := nI_of (x := a) (fun z => h (Int32.le_of_lt z))
  subst k2
  exact ⟨k, k1, by rw [nI_l k1, lN_add]⟩
theorem ek_28 {W : Nat} {u : SX} {v : SY} {n S g j i : Nat} (E : ex_at W u v n S g j i) (k : xa_kinds u i = 28) : ex_x (W + 1) u v g i := by
  obtain ⟨hg, j4, hr, d1, d2, i60, T, TY⟩ := at_f E
  obtain ⟨B1, B2, ea, eb, ec⟩ := at_e E
  obtain ⟨_, _, _, hp, hx, hy, hi⟩ := id E
  obtain ⟨w, hw, Hw, s, hm, pw, wk, wA, wB, wC, wv⟩ := at_g E
  have kY : ya_kind v i = 28 := by rw [B1]; exact k
  have kw : xa_kinds w i = 28 := by rw [wk]; exact k
  have nx := st_nx T.2.1 hi (by rw [k]; decide)
  have ht := (mid_t Hw).1
  have n60 := T.2.1.1
  have hrw : xa_running w = nI g := Hw.2.2.1
  have B17 : ya_queued v = xa_queueLength w := Hw.1.1.2.2.2.2.2.2.2.2.2.2.2.2.2.2.2.2.2.1
  have B7 : ya_clock v = xa_time w := Hw.1.1.2.2.2.2.2.2.2.1
  have B11 : ya_made v = xa_channelCount w := Hw.1.1.2.2.2.2.2.2.2.2.2.2.2.1
  have B16 : ya_turn v = xa_waitsBegun w := Hw.1.1.2.2.2.2.2.2.2.2.2.2.2.2.2.2.2.2.1
  obtain ⟨m1, m2, m3, m4, m5, m6, m7, m8, m9, m10, m11⟩ := me_b Hw.2.2.2.2.2
  by_cases a0 : rl_val (xa_variables u) (4 * g + j) (xa_argA u i) ≤ 0
  · obtain ⟨C0, C1, C2, C3, C4, C5, C6, C7, C8, C9, C10, C11, C12, C13, C14, C15, C16, C17, C18, C19, C20, C21, C22⟩ := bs_b Hw.1.1
    have hm : xb_mode w (4 * g + j) = 0 := hm
    have hp : yb_panics v (4 * g + j) = 0 := hp
    have pw : xb_position w (4 * g + j) = nI (i + 1) := pw
    have s : xb_state w = 1 := s
    obtain ⟨L, L12, eL⟩ := que_len (g := g) Hw.1.2.2.2.2.2.2.2.1 Hw.1.2.2.1 Hw.2.1 (fun z => z.2 rfl)
    refine ex_of (u' := xs_running (xs_queue (xs_queueLength w (nI (L + 1))) (upd (xa_queue w) L (nI g))) (-1)) (v' := ys_off (yr_s (ys_resume v (upd (ya_resume v) g (nI (i + 1)))) g L) 1) ⟨n, S, co_off Hw (Nat.le_succ W) ⟨rfl, rfl, rfl, rfl, rfl, rfl, rfl, rfl, rfl, rfl⟩ (fun g1 h1 => ⟨rfl, rfl, rfl, fr_er, fr_er, fr_er, fr_er, fr_er, fr_er, fr_er, fr_er⟩) (fun g1 h1 => ⟨(pk_un h1 : (upd (ya_status v) g 1) g1 = ya_status v g1), rfl, (pk_un h1 : (upd (ya_resume v) g (nI (i + 1))) g1 = ya_resume v g1), rfl, rfl, rfl, fr_er, fr_er, fr_er, fr_er, fr_er⟩) ⟨C0, C1, C2, C3, C4, C5, C6, C7, C8, C9, C10, C11, C12, C13, C14, C15, C16, rfl, C18, C19, C20, C21, C22⟩ (chn_fr Hw.1.2.2.2.2.2.2.1 rfl rfl rfl rfl rfl rfl) rfl (que_add Hw.1.2.2.2.2.2.2.2.1 Hw.1.2.2.1 Hw.2.1 (fun z => z.2 rfl) eL L12 rfl rfl rfl ⟨(pk_us : upd (ya_status v) g 1 g = 1), by simp⟩ (fun q hq _ => ?_)) ?_ ⟨j + 1, m2, m3, m4, Or.inr ⟨m1, rl_low_fr rfl m2 fr_er fr_er fr_er fr_er fr_er m5, rl_nts_fr rfl m2 fr_er fr_er fr_er fr_er fr_er m6, hm, hp, Or.inr (Or.inr ⟨m7, (pk_us : upd (ya_status v) g 1 g = 1), m10, rl_nw_fr rfl fr_er m11, i + 1, nx, pw, Or.inl (pk_us : upd (ya_resume v) g (nI (i + 1)) g = nI (i + 1))⟩)⟩⟩, rfl, rfl, s⟩ (fun P q => xx_28 hg j4 hr d1 hx i60 k ?_) (fun P q => yy_28 hg j4 d2 i60 kY ?_)
    · have : ya_status (ys_off (yr_s (ys_resume v (upd (ya_resume v) g (nI (i + 1)))) g L) 1) q = ya_status v q := (pk_un hq : upd (ya_status v) g 1 q = _)
      rw [this]
      exact ⟨fun z => ⟨z.1, fun w => hq (by injection w)⟩, fun z => ⟨z.1, by simp⟩⟩
    · obtain ⟨w', s', t1, t2, t3, t4⟩ := Hw.1.2.2.2.2.2.2.2.2.1
      exact ⟨w', s', Nat.le_succ_of_le t1, (t2 : xb_waitsBegun w = nI w'), Nat.le_trans t3 (Nat.mul_le_mul_right _ (Nat.le_succ W)), (t4 : xb_time w = lN s')⟩
    · rw [hw, ux_sleep, hrw]
      refine br_t a0 ?_
      rw [ux_enqueue, eL, nI_clamp (show L < 2 ^ 31 by omega), nI_1]
      exact ⟨vp_in_nI L12 (by decide), nm_e (nm_e q)⟩
    · rw [ea]
      exact br_t a0 (yw_p hg (by omega) (B17.trans eL) L12 q)
  · obtain ⟨w', s', t1, t2, t3, t4⟩ := id Hw.1.2.2.2.2.2.2.2.2.1
    obtain ⟨c, c8, cc, _⟩ := id Hw.1.2.2.2.2.2.2.1
    obtain ⟨q0, q1, q2⟩ := lN_a (s := s') a0
    have le : s' + q0 ≤ (W + 1) * 2 ^ 31 := by
      rw [Nat.add_mul, Nat.one_mul]
      exact Nat.add_le_add t3 (Nat.le_of_lt q1)
    have key := wa_co (i := i) (un := lN (s' + q0)) (SW := xa_slotWish w) (SL := xa_slotLine w) Hw s hm hp hy hi (Or.inr (Or.inr (Or.inr kw))) t2 t1 cc c8 (fun g1 h1 => fr_er) (fun g1 h1 => fr_er) ⟨fun _ i hi => m11.2 i hi, fun z => by rcases z with z | z <;> (exact absurd (kw.symm.trans z) (by decide)), fun z => absurd (kw.symm.trans z) (by decide)⟩ (Or.inr ⟨s' + q0, le, rfl, Or.inl kw⟩)
    rw [xsl_id] at key
    refine ex_of key (fun P q => xx_28 hg j4 hr d1 hx i60 k ?_) (fun P q => yy_28 hg j4 d2 i60 kY ?_)
    · rw [hw, ux_sleep, t4, q2]
      exact br_f a0 (xb_p hg ht hrw t2 q)
    · rw [ea, B7.trans t4, q2]
      exact br_f a0 (yp_p hg (B16.trans t2) (B11.trans cc) c8 q)
