/-! SEND, RECV -/
set_option maxHeartbeats 300000 in
theorem ea_no {post : SX → Prop} {u : SX} {t w i : Nat} {x3 : Int32} (w60 : w < 60) (k6 : ¬ xa_kinds u w = 6) (h : wpX_offerCases (fun u5 => wpX_beginWait post u5 (nI t) (nI w) (-1)) u (nI t) (nI w) x3) : wpX_enterAlternativeOrWait post u (nI t) (nI w) x3 := by
  rw [ux_enterAlternativeOrWait, nI_clamp (show w < 2 ^ 31 by omega)]
  refine ⟨vp_in_nI w60 (by decide), br_f k6 ?_⟩
  rw [ux_enterAlternativeOrWait_20]
  refine br_t rfl ?_
  rw [ux_enterAlternativeOrWait_89]
  exact h
theorem zz_ea_no : True := sorry
set_option maxHeartbeats 300000 in
theorem cm_one {P : SX → Prop} {u u0 : SX} {n t w : Nat} {r0 : Int32} (T : sx_st u n) (ht : t < 48) (hw : w < n) (kw : (xa_kinds u w = 10 ∧ ∀ P' : Int32 → SX → Prop, P' r0 u0 → wpX_trySend P' u (nI t) (nI w)) ∨ (xa_kinds u w = 11 ∧ ∀ P' : Int32 → SX → Prop, P' r0 u0 → wpX_tryReceive P' u (nI t) (nI w)))
    (h0 : r0 = 0 → P (xs_position u0 (upd (xa_position u0) t (nI (w + 1))))) (h2 : r0 = 2 → wpX_panic P u0 (nI t) (-1)) (h1 : ¬ r0 = 0 → ¬ r0 = 2 → wpX_enterAlternativeOrWait P u0 (nI t) (nI w) (nI w)) : wpX_communicate P u (nI t) (nI w) := by
  have n60 := T.2.1.1
  have cw : (nI w).toNatClampNeg = w := nI_clamp (by omega)
  have vw : vp_in (nI w) 60 := vp_in_nI (by omega) (by decide)
  have fin : cx_communicate_75 P (cx_communicate_25 P (nI t) (nI w) (nI w) 1) (nI t) (nI w) (nI w) (nI w) r0 u0 := by
    rw [ux_communicate_75, nI_clamp (show t < 2 ^ 31 by omega), nI_1]
    refine br_c (fun z => ⟨vp_in_nI ht (by decide), nm_e (h0 z)⟩) (fun z => br_c h2 (fun y => nm_e ?_))
    rw [ux_communicate_25]
    exact br_t (nI_lt (by omega) (by omega)) (h1 z y)
  have n6 : ¬ xa_kinds u w = 6 := by
    rcases kw with ⟨k, _⟩ | ⟨k, _⟩ <;> (rw [k]; decide)
  rw [ux_communicate, cw]
  refine ⟨vw, br_f n6 ⟨2, ?_⟩⟩
  rw [ux_communicate_25]
  refine br_f (nI_nlt (Nat.le_refl _) (by omega)) ?_
  rcases kw with ⟨k, hk⟩ | ⟨k, hk⟩
  · refine xs_of T hw hw (fun _ => br_f (by decide) (hk _ fin)) (fun z => absurd (Or.inl ⟨rfl, k⟩) z)
  · refine xs_of T hw hw (fun z => ?_) (fun z => br_t rfl (xr_of T hw hw (fun _ => br_f (by decide) (hk _ fin)) (fun y => absurd (Or.inl ⟨rfl, k⟩) y)))
    rcases z with ⟨_, z⟩ | ⟨z, _⟩
    · rw [k] at z; exact absurd z (by decide)
    · exact absurd rfl z
theorem zz_cm_one : True := sorry
set_option maxHeartbeats 300000 in
/-- SEND or RECV waits -/
theorem wt_one {W : Nat} {u : SX} {v : SY} {n S g j i : Nat} (E : ex_at W u v n S g j i) (k : xa_kinds u i = 10 ∨ xa_kinds u i = 11) :
    ∃ u' v', rl_off (W + 1) u' v' ∧ (∀ P : SX → Prop, P u' → wpX_enterAlternativeOrWait P (xp_at u (4 * g + j) (i + 1)) (nI (4 * g + j)) (nI i) (nI i)) ∧ (∀ P : SY → Prop, P v' → wpY_pause P v (nI g) (-1)) := by
  obtain ⟨hg, j4, hr, d1, d2, i60, T, TY⟩ := at_f E
  obtain ⟨H, s, hm, hp, hx, hy, hi⟩ := id E
  obtain ⟨Hw, pw⟩ := at_w (q := i + 1) E
  obtain ⟨L0, B1, B2, B3, B4, B5, B6, B7, B8, B9, B10, B11, B12, B13, B14, B15, B16, B17, B18, B19, B20, B21, B22⟩ := id Hw.1.1
  obtain ⟨w', s', t1, t2, t3, t4⟩ := id Hw.1.2.2.2.2.2.2.2.2.1
  obtain ⟨c, c8, cc, _⟩ := id Hw.1.2.2.2.2.2.2.1
  have nw : rl_nw (xp_at u (4 * g + j) (i + 1)) g := Hw.2.2.2.2.2.2.2.2.2.2.2.2.2.2.2
  have n6 : ¬ xa_kinds u i = 6 := by rcases k with z | z <;> (rw [z]; decide)
  have n28 : ¬ xa_kinds u i = 28 := by rcases k with z | z <;> (rw [z]; decide)
  have sp : sl_P (xa_kinds u) (xa_argA u) (xa_argB u) (xa_variables u) n g (4 * g + j) i (nI c) (upd (xa_slotWish u) (3 * g) (rl_wish (xa_kinds u) (xa_argA u) (xa_argB u) (xa_variables u) (4 * g + j) (nI c) i)) (upd (xa_slotLine u) (3 * g) (nI i)) := by
    refine ⟨fun z => absurd z n28, fun _ => ⟨pk_us, pk_us, ?_, ?_⟩, fun z => absurd z n6⟩
    · rw [pk_un (by omega)]; exact nw.2 1 (by decide)
    · rw [pk_un (by omega)]; exact nw.2 2 (by decide)
  have ki : xa_kinds u i = 6 ∨ xa_kinds u i = 10 ∨ xa_kinds u i = 11 ∨ xa_kinds u i = 28 := by
    rcases k with z | z
    · exact Or.inr (Or.inl z)
    · exact Or.inr (Or.inr (Or.inl z))
  have key := wa_co (u := xp_at u (4 * g + j) (i + 1)) (i := i) (un := -1) (SW := upd (xa_slotWish u) (3 * g) (rl_wish (xa_kinds u) (xa_argA u) (xa_argB u) (xa_variables u) (4 * g + j) (nI c) i)) (SL := upd (xa_slotLine u) (3 * g) (nI i)) Hw s hm hp hy hi ki t2 t1 cc c8 (fun g1 h1 => fr_eu (by omega)) (fun g1 h1 => fr_eu (by omega)) sp (Or.inl ⟨rfl, n28⟩)
  refine ⟨_, _, key, fun P q => ea_no (u := xp_at u (4 * g + j) (i + 1)) (i := i) i60 n6 ?_, fun P q => yp_p hg (B16.trans t2) (B11.trans cc) c8 q⟩
  exact oc_one (u := xp_at u (4 * g + j) (i + 1)) (sx_at T) hg (mid_t H).1 hi k hr cc (xb_p (u := os_s (xp_at u (4 * g + j) (i + 1)) (upd (xa_slotWish u) (3 * g) (rl_wish (xa_kinds u) (xa_argA u) (xa_argB u) (xa_variables u) (4 * g + j) (nI c) i)) (upd (xa_slotLine u) (3 * g) (nI i))) hg (mid_t H).1 hr t2 q)
theorem zz_wt_one : True := sorry
set_option maxHeartbeats 300000 in
theorem at_up {W W' : Nat} {u : SX} {v : SY} {n S g j i : Nat} (h : W ≤ W') (E : ex_at W u v n S g j i) : ex_at W' u v n S g j i := ⟨rl_mid_up h E.1, E.2⟩
theorem zz_at_up : True := sorry
set_option maxHeartbeats 300000 in
theorem ek_10 {W : Nat} {u : SX} {v : SY} {n S g j i : Nat} (E0 : ex_at W u v n S g j i) (k : xa_kinds u i = 10) : ex_x (W + 1) u v g i := by
  have E := at_up (Nat.le_succ W) E0
  obtain ⟨hg, j4, hr, d1, d2, i60, T, TY⟩ := at_f E
  obtain ⟨B1, B2, ea, eb, ec⟩ := at_e E
  obtain ⟨H, s, hm, hp, hx, hy, hi⟩ := id E
  obtain ⟨Hw, pw⟩ := at_w (q := i + 1) E
  have kY : ya_kind v i = 10 := by rw [B1]; exact k
  have nx := st_nx T.2.1 hi (by rw [k]; decide)
  have ht := (mid_t H).1
  rcases ts_all (a := rl_val (xa_variables u) (4 * g + j) (xa_argA u i)) (b := rl_val (xa_variables u) (4 * g + j) (xa_argB u i)) Hw hi rfl rfl with ⟨x1, y1⟩ | ⟨x1, y1, y2⟩ | ⟨u', v', x1, y1, y2, K⟩
  · obtain ⟨u', v', o1, o2, o3⟩ := wt_one E0 (Or.inl k)
    refine ex_of o1 (fun P q => xx_10 hg j4 hr d1 hx i60 k (cm_one (sx_at T) ht hi (Or.inl ⟨k, x1⟩) (fun z => absurd z (by decide)) (fun z => absurd z (by decide)) (fun _ _ => o2 P q))) (fun P q => yy_10 hg j4 d2 i60 kY ?_)
    rw [ea]
    exact y1 _ (br_t rfl (o3 P q))
  · refine ex_pa (x := -1) Hw s (fun P q => xx_10 hg j4 hr d1 hx i60 k (cm_one (sx_at T) ht hi (Or.inl ⟨k, x1⟩) (fun z => absurd z (by decide)) (fun _ => q) (fun _ z => absurd rfl z))) (fun P q => yy_10 hg j4 d2 i60 kY ?_)
    rw [ea, eb]
    exact y1 _ (br_f (by decide) (y2 _ (br_t rfl q)))
  · obtain ⟨K1, K2, K3, K4, K5⟩ := K
    refine ex_go (mid_pos (p := nI (i + 1)) K1) (K2.trans s) (K3.trans hm) (K4.trans hp) pk_us nx nx rfl (fun P q => xx_10 hg j4 hr d1 hx i60 k (cm_one (sx_at T) ht hi (Or.inl ⟨k, x1⟩) (fun _ => q) (fun z => absurd z (by decide)) (fun z => absurd rfl z))) (fun P q => yy_10 hg j4 d2 i60 kY ?_)
    rw [ea, eb]
    exact y1 _ (br_f (by decide) (y2 _ (br_f (by decide) q)))
theorem zz_ek_10 : True := sorry
set_option maxHeartbeats 300000 in
theorem ek_11 {W : Nat} {u : SX} {v : SY} {n S g j i : Nat} (E0 : ex_at W u v n S g j i) (k : xa_kinds u i = 11) : ex_x (W + 1) u v g i := by
  have E := at_up (Nat.le_succ W) E0
  obtain ⟨hg, j4, hr, d1, d2, i60, T, TY⟩ := at_f E
  obtain ⟨B1, B2, ea, eb, ec⟩ := at_e E
  obtain ⟨H, s, hm, hp, hx, hy, hi⟩ := id E
  obtain ⟨Hw, pw⟩ := at_w (q := i + 1) E
  have kY : ya_kind v i = 11 := by rw [B1]; exact k
  have nx := st_nx T.2.1 hi (by rw [k]; decide)
  have ht := (mid_t H).1
  rcases tr_all (b := rl_val (xa_variables u) (4 * g + j) (xa_argB u i)) Hw hi (Or.inr k) rfl with ⟨x1, y1⟩ | ⟨u', v', x1, y1, y2, K⟩
  · obtain ⟨u', v', o1, o2, o3⟩ := wt_one E0 (Or.inr k)
    refine ex_of o1 (fun P q => xx_11 hg j4 hr d1 hx i60 k (cm_one (sx_at T) ht hi (Or.inr ⟨k, x1⟩) (fun z => absurd z (by decide)) (fun z => absurd z (by decide)) (fun _ _ => o2 P q))) (fun P q => yy_11 hg j4 d2 i60 kY ?_)
    rw [eb]
    exact y1 _ (br_t rfl (o3 P q))
  · obtain ⟨K1, K2, K3, K4, K5⟩ := K
    refine ex_go (mid_pos (p := nI (i + 1)) K1) (K2.trans s) (K3.trans hm) (K4.trans hp) pk_us nx nx rfl (fun P q => xx_11 hg j4 hr d1 hx i60 k (cm_one (sx_at T) ht hi (Or.inr ⟨k, x1⟩) (fun _ => q) (fun z => absurd z (by decide)) (fun z => absurd rfl z))) (fun P q => yy_11 hg j4 d2 i60 kY ?_)
    rw [eb]
    exact y1 _ (br_f (by decide) (y2 _ q))

theorem zz_ek_11 : True := sorry
