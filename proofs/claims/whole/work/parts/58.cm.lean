/-! SEND, RECV -/
theorem ea_no {post : SX → Prop} {u : SX} {t w i : Nat} {x3 : Int32} (w60 : w < 60) (k6 : ¬ xa_kinds u w = 6) (h : wpX_offerCases (fun u5 => wpX_beginWait post u5 (nI t) (nI w) (-1)) u (nI t) (nI w) x3) : wpX_enterAlternativeOrWait post u (nI t) (nI w) x3 := by
  rw [ux_enterAlternativeOrWait, nI_clamp (show w < 2 ^ 31 by omega)]
  refine ⟨vp_in_nI w60 (by decide), br_f k6 ?_⟩
  rw [ux_enterAlternativeOrWait_20]
  refine br_t rfl ?_
  rw [ux_enterAlternativeOrWait_89]
  exact h
theorem cm_one {P : SX → Prop} {u u0 : SX} {n t w : Nat} {r0 : Int32} (T : sx_st u n) (ht : t < 48) (hw : w < n) (kw : (xa_kinds u w = 10 ∧ ∀ P' : Int32 → SX → Prop, P' r0 u0 → wpX_trySend P' u (nI t) (nI w)) ∨ (xa_kinds u w = 11 ∧ ∀ P' : Int32 → SX → Prop, P' r0 u0 → wpX_tryReceive P' u (nI t) (nI w)))
    (h0 : r0 = 0 → P (xs_position u0 (upd (xa_position u0) t (nI (w + 1))))) (h2 : r0 = 2 → wpX_panic P u0 (nI t) (-1)) (h1 : ¬ r0 = 0 → ¬ r0 = 2 → wpX_enterAlternativeOrWait P u0 (nI t) (nI w) (nI w)) : wpX_communicate P u (nI t) (nI w) := by
  have n60 := T.2.1.1
  have cw : (nI w).toNatClampNeg = w := nI_clamp (by omega)
  have vw : vp_in (nI w) 60 := vp_in_nI (by omega) (by decide)
  have fin : cx_communicate_75 P (cx_communicate_25 P (nI t) (nI w) (nI w) 1) (nI t) (nI w) (nI w) (nI w) r0 u0 := by
    rw [ux_communicate_75, nI_clamp (show t < 2 ^ 31 by omega), nI_1]
    refine br_c (fun z => ⟨vp_in_nI ht (by decide), nm_e (h0 z)⟩) (fun z => br_c h2 (fun y => nm_e ?_))
    rw [ux_communicate_25]
    exact br_t (nI_lt (by omega) (by omega)) (h1 z y)
  have n6 : ¬ xa_kinds u w = 6 := by
    rcases kw with ⟨k, _⟩ | ⟨k, _⟩ <;> (rw [k]; decide)
  rw [ux_communicate, cw]
  refine ⟨vw, br_f n6 ⟨2, ?_⟩⟩
  rw [ux_communicate_25]
  refine br_f (nI_nlt (Nat.le_refl _) (by omega)) ?_
  rcases kw with ⟨k, hk⟩ | ⟨k, hk⟩
  · refine xs_of T hw hw (fun _ => br_f (by decide) (hk _ fin)) (fun z => absurd (Or.inl ⟨rfl, k⟩) z)
  · refine xs_of T hw hw (fun z => ?_) (fun z => br_t rfl (xr_of T hw hw (fun _ => br_f (by decide) (hk _ fin)) (fun y => absurd (Or.inl ⟨rfl, k⟩) y)))
    rcases z with ⟨_, z⟩ | ⟨z, _⟩
    · rw [k] at z; exact absurd z (by decide)
    · exact absurd rfl z
/-- SEND or RECV waits -/
theorem wt_one {W : Nat} {w : SX} {v : SY} {n S g j i : Nat} (Hw : rl_mid W w v n S g (j + 1)) (s : xa_state w = 1) (hm : xa_mode w (4 * g + j) = 0) (hp : ya_panics v (4 * g + j) = 0) (hy : ya_pc v (4 * g + j) = nI i) (hi : i < n) (k : xa_kinds w i = 10 ∨ xa_kinds w i = 11) :
    ∃ u' v', rl_off (W + 1) u' v' ∧ (∀ P : SX → Prop, P u' → wpX_enterAlternativeOrWait P w (nI (4 * g + j)) (nI i) (nI i)) ∧ (∀ P : SY → Prop, P v' → wpY_pause P v (nI g) (-1)) := by
  obtain ⟨w', s', t1, t2, t3, t4⟩ := id Hw.1.2.2.2.2.2.2.2.2.1
  obtain ⟨c, c8, cc, _⟩ := id Hw.1.2.2.2.2.2.2.1
  have B11 : ya_made v = xa_channelCount w := Hw.1.1.2.2.2.2.2.2.2.2.2.2.2.1
  have B16 : ya_turn v = xa_waitsBegun w := Hw.1.1.2.2.2.2.2.2.2.2.2.2.2.2.2.2.2.2.1
  have nw : rl_nw w g := Hw.2.2.2.2.2.2.2.2.2.2.2.2.2.2.2
  have T := Hw.1.2.1
  have ht := (mid_t Hw).1
  have hg := (mid_t Hw).2
  have i60 : i < 60 := by have := T.2.1.1; omega
  have n6 : ¬ xa_kinds w i = 6 := by rcases k with z | z <;> (rw [z]; decide)
  have n28 : ¬ xa_kinds w i = 28 := by rcases k with z | z <;> (rw [z]; decide)
  have sp : sl_P (xa_kinds w) (xa_argA w) (xa_argB w) (xa_variables w) n g (4 * g + j) i (nI c) (upd (xa_slotWish w) (3 * g) (rl_wish (xa_kinds w) (xa_argA w) (xa_argB w) (xa_variables w) (4 * g + j) (nI c) i)) (upd (xa_slotLine w) (3 * g) (nI i)) := by
    refine ⟨fun z => absurd z n28, fun _ => ⟨pk_us, pk_us, ?_, ?_⟩, fun z => absurd z n6⟩
    · rw [pk_un (by omega)]; exact nw.2 1 (by decide)
    · rw [pk_un (by omega)]; exact nw.2 2 (by decide)
  have ki : xa_kinds w i = 6 ∨ xa_kinds w i = 10 ∨ xa_kinds w i = 11 ∨ xa_kinds w i = 28 := by
    rcases k with z | z
    · exact Or.inr (Or.inl z)
    · exact Or.inr (Or.inr (Or.inl z))
  have key := wa_co (i := i) (un := -1) (SW := upd (xa_slotWish w) (3 * g) (rl_wish (xa_kinds w) (xa_argA w) (xa_argB w) (xa_variables w) (4 * g + j) (nI c) i)) (SL := upd (xa_slotLine w) (3 * g) (nI i)) Hw s hm hp hy hi ki t2 t1 cc c8 (fun g1 h1 => fr_eu (by omega)) (fun g1 h1 => fr_eu (by omega)) sp (Or.inl ⟨rfl, n28⟩)
  refine ⟨_, _, key, fun P q => ea_no (i := i) i60 n6 (oc_one T hg ht hi k Hw.2.2.1 cc ?_), fun P q => yp_p hg (B16.trans t2) (B11.trans cc) c8 q⟩
  have r1 : xa_running (os_s w (upd (xa_slotWish w) (3 * g) (rl_wish (xa_kinds w) (xa_argA w) (xa_argB w) (xa_variables w) (4 * g + j) (nI c) i)) (upd (xa_slotLine w) (3 * g) (nI i))) = nI g := (Hw.2.2.1 : xb_running w = nI g)
  have r2 : xa_waitsBegun (os_s w (upd (xa_slotWish w) (3 * g) (rl_wish (xa_kinds w) (xa_argA w) (xa_argB w) (xa_variables w) (4 * g + j) (nI c) i)) (upd (xa_slotLine w) (3 * g) (nI i))) = nI w' := (t2 : xb_waitsBegun w = nI w')
  exact xb_p hg ht r1 r2 q
theorem at_up {W W' : Nat} {u : SX} {v : SY} {n S g j i : Nat} (h : W ≤ W') (E : ex_at W u v n S g j i) : ex_at W' u v n S g j i := ⟨rl_mid_up h E.1, E.2⟩
theorem ek_10 {W : Nat} {u : SX} {v : SY} {n S g j i : Nat} (E0 : ex_at W u v n S g j i) (k : xa_kinds u i = 10) : ex_x (W + 1) u v g i := by
  have E := at_up (Nat.le_succ W) E0
  obtain ⟨hg, j4, hr, d1, d2, i60, T, TY⟩ := at_f E
  obtain ⟨B1, B2, ea, eb, ec⟩ := at_e E
  obtain ⟨_, _, _, hp, hx, hy, hi⟩ := id E
  obtain ⟨w, hw, Hw0, s, hm, pw, wk, wA, wB, wC, wv⟩ := at_g E0
  have Hw := rl_mid_up (Nat.le_succ W) Hw0
  have kY : ya_kind v i = 10 := by rw [B1]; exact k
  have kw : xa_kinds w i = 10 := by rw [wk]; exact k
  have nx := st_nx T.2.1 hi (by rw [k]; decide)
  have ht := (mid_t Hw).1
  have eaw : rl_val (ya_vars v) (4 * g + j) (ya_opA v i) = rl_val (xa_variables w) (4 * g + j) (xa_argA w i) := by rw [wv, wA]; exact ea
  have ebw : rl_val (ya_vars v) (4 * g + j) (ya_opB v i) = rl_val (xa_variables w) (4 * g + j) (xa_argB w i) := by rw [wv, wB]; exact eb
  rcases ts_all (a := rl_val (xa_variables w) (4 * g + j) (xa_argA w i)) (b := rl_val (xa_variables w) (4 * g + j) (xa_argB w i)) Hw hi rfl rfl with ⟨x1, y1⟩ | ⟨x1, y1, y2⟩ | ⟨u', v', x1, y1, y2, K⟩
  · obtain ⟨u', v', o1, o2, o3⟩ := wt_one Hw0 s hm hp hy hi (Or.inl kw)
    refine ex_of o1 (fun P q => xx_10 hg j4 hr d1 hx i60 k (by rw [hw]; exact cm_one Hw.1.2.1 ht hi (Or.inl ⟨kw, x1⟩) (fun z => absurd z (by decide)) (fun z => absurd z (by decide)) (fun _ _ => o2 P q))) (fun P q => yy_10 hg j4 d2 i60 kY ?_)
    rw [eaw]
    exact y1 _ (br_t rfl (o3 P q))
  · refine ex_pa (x := -1) Hw s (fun P q => xx_10 hg j4 hr d1 hx i60 k (by rw [hw]; exact cm_one Hw.1.2.1 ht hi (Or.inl ⟨kw, x1⟩) (fun z => absurd z (by decide)) (fun _ => q) (fun _ z => absurd rfl z))) (fun P q => yy_10 hg j4 d2 i60 kY ?_)
    rw [eaw, ebw]
    exact y1 _ (br_f (by decide) (y2 _ (br_t rfl q)))
  · obtain ⟨K1, K2, K3, K4, K5⟩ := K
    refine ex_go (mid_pos (p := nI (i + 1)) K1) (K2.trans s : xb_state u' = 1) (K3.trans hm : xb_mode u' (4 * g + j) = 0) (K4.trans hp) (pk_us : upd (xa_position u') (4 * g + j) (nI (i + 1)) (4 * g + j) = nI (i + 1)) nx nx rfl (fun P q => xx_10 hg j4 hr d1 hx i60 k (by rw [hw]; exact cm_one Hw.1.2.1 ht hi (Or.inl ⟨kw, x1⟩) (fun _ => q) (fun z => absurd z (by decide)) (fun z => absurd rfl z))) (fun P q => yy_10 hg j4 d2 i60 kY ?_)
    rw [eaw, ebw]
    exact y1 _ (br_f (by decide) (y2 _ (br_f (by decide) q)))
theorem ek_11 {W : Nat} {u : SX} {v : SY} {n S g j i : Nat} (E0 : ex_at W u v n S g j i) (k : xa_kinds u i = 11) : ex_x (W + 1) u v g i := by
  have E := at_up (Nat.le_succ W) E0
  obtain ⟨hg, j4, hr, d1, d2, i60, T, TY⟩ := at_f E
  obtain ⟨B1, B2, ea, eb, ec⟩ := at_e E
  obtain ⟨_, _, _, hp, hx, hy, hi⟩ := id E
  obtain ⟨w, hw, Hw0, s, hm, pw, wk, wA, wB, wC, wv⟩ := at_g E0
  have Hw := rl_mid_up (Nat.le_succ W) Hw0
  have kY : ya_kind v i = 11 := by rw [B1]; exact k
  have kw : xa_kinds w i = 11 := by rw [wk]; exact k
  have nx := st_nx T.2.1 hi (by rw [k]; decide)
  have ht := (mid_t Hw).1
  have eaw : rl_val (ya_vars v) (4 * g + j) (ya_opA v i) = rl_val (xa_variables w) (4 * g + j) (xa_argA w i) := by rw [wv, wA]; exact ea
  have ebw : rl_val (ya_vars v) (4 * g + j) (ya_opB v i) = rl_val (xa_variables w) (4 * g + j) (xa_argB w i) := by rw [wv, wB]; exact eb
  rcases tr_all (b := rl_val (xa_variables w) (4 * g + j) (xa_argB w i)) Hw hi (Or.inr kw) rfl with ⟨x1, y1⟩ | ⟨u', v', x1, y1, y2, K⟩
  · obtain ⟨u', v', o1, o2, o3⟩ := wt_one Hw0 s hm hp hy hi (Or.inr kw)
    refine ex_of o1 (fun P q => xx_11 hg j4 hr d1 hx i60 k (by rw [hw]; exact cm_one Hw.1.2.1 ht hi (Or.inr ⟨kw, x1⟩) (fun z => absurd z (by decide)) (fun z => absurd z (by decide)) (fun _ _ => o2 P q))) (fun P q => yy_11 hg j4 d2 i60 kY ?_)
    rw [ebw]
    exact y1 _ (br_t rfl (o3 P q))
  · obtain ⟨K1, K2, K3, K4, K5⟩ := K
    refine ex_go (mid_pos (p := nI (i + 1)) K1) (K2.trans s : xb_state u' = 1) (K3.trans hm : xb_mode u' (4 * g + j) = 0) (K4.trans hp) (pk_us : upd (xa_position u') (4 * g + j) (nI (i + 1)) (4 * g + j) = nI (i + 1)) nx nx rfl (fun P q => xx_11 hg j4 hr d1 hx i60 k (by rw [hw]; exact cm_one Hw.1.2.1 ht hi (Or.inr ⟨kw, x1⟩) (fun _ => q) (fun z => absurd z (by decide)) (fun z => absurd rfl z))) (fun P q => yy_11 hg j4 d2 i60 kY ?_)
    rw [ebw]
    exact y1 _ (br_f (by decide) (y2 _ q))
