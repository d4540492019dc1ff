/-! SELECT: both -/
theorem cm_pre {P : SX → Prop} {u : SX} {n t w : Nat} (T : sx_st u n) (hw : w < n) (k6 : xa_kinds u w = 6) (h : ∃ m, cx_communicate_25 P (nI t) (nI w) (nI (st_e (xa_kinds u) w n)) m (nI w) u) : wpX_communicate P u (nI t) (nI w) := by
  have n60 := T.2.1.1
  have e1 := (sx_end T hw (by rw [k6]; decide)).1
  have vw : vp_in (nI w) 60 := vp_in_nI (by omega) (by decide)
  rw [ux_communicate, nI_clamp (show w < 2 ^ 31 by omega)]
  exact ⟨vw, br_t k6 ⟨vw, nm_r e1 h⟩⟩
/-- SELECT waits -/
theorem wt_sel {W : Nat} {w : SX} {v : SY} {n S g j i : Nat} {un : Int64} (Hw : rl_mid W w v n S g (j + 1)) (s : xa_state w = 1) (hm : xa_mode w (4 * g + j) = 0) (hp : ya_panics v (4 * g + j) = 0) (hy : ya_pc v (4 * g + j) = nI i) (hi : i < n) (k6 : xa_kinds w i = 6) (hun : (un = -1) ∨ (∃ q, q ≤ (W + 1) * 2 ^ 31 ∧ un = lN q ∧ ∃ l, l < n ∧ (st_s (xa_kinds w) l).head? = some i ∧ xa_kinds w l = 29)) :
    ∃ u' v', rl_off (W + 1) u' v' ∧ (∀ P : SX → Prop, P u' → cx_enterAlternativeOrWait_89 P (nI (4 * g + j)) (nI i) (nI (st_e (xa_kinds w) i n)) un w) ∧ (∀ P : SY → Prop, P v' → wpY_pause P v (nI g) un) := by
  have T := Hw.1.2.1
  have hg := (mid_t Hw).2
  have B11 : ya_made v = xa_channelCount w := Hw.1.1.2.2.2.2.2.2.2.2.2.2.2.1
  have B16 : ya_turn v = xa_waitsBegun w := Hw.1.1.2.2.2.2.2.2.2.2.2.2.2.2.2.2.2.2.1
  obtain ⟨w', s', t1, t2, t3, t4⟩ := id Hw.1.2.2.2.2.2.2.2.2.1
  obtain ⟨c, c8, cc, _⟩ := id Hw.1.2.2.2.2.2.2.1
  have nw : rl_nw w g := Hw.2.2.2.2.2.2.2.2.2.2.2.2.2.2.2
  have ht := (mid_t Hw).1
  have n60 := T.2.1.1
  obtain ⟨p1, p2, p3, p4, p5⟩ := un_opn T.2.1 hi (by rw [k6]; decide : st_op (xa_kinds w i))
  obtain ⟨SW, SL, s1, s2, s3, s4⟩ := oc_sel (u := w) (t := 4 * g + j) T hg ht hi k6 cc nw (st_e (xa_kinds w) i n + 1 - i) (st_e (xa_kinds w) i n + 1) (by omega) (Nat.le_refl _)
  have n28 : ¬ xa_kinds w i = 28 := by rw [k6]; decide
  have sp : sl_P (xa_kinds w) (xa_argA w) (xa_argB w) (xa_variables w) n g (4 * g + j) i (nI c) SW SL := by
    refine ⟨fun z => absurd z n28, fun z => ?_, fun _ => ⟨fun l hl h1 h2 => ?_, fun k hk k3 => s2 k ?_ k3⟩⟩
    · rcases z with z | z <;> (rw [k6] at z; exact absurd z (by decide))
    · have := al_in T.2.1 hl h1 (by rcases st_pc_iff.mp h2 with e | e <;> (rw [e]; decide))
      exact s1 l (by omega) h1 h2
    · have nc : st_n (xa_kinds w) st_pc i n = st_n (xa_kinds w) st_pc i (st_e (xa_kinds w) i n + 1) := n_const n (by omega) (fun k x y q => by
        have := al_in T.2.1 y q.1 (by rcases st_pc_iff.mp q.2 with e | e <;> (rw [e]; decide))
        omega)
      show st_n (xa_kinds w) st_pc i (st_e (xa_kinds w) i n + 1) ≤ k
      omega
  have key := wa_co (u := w) (i := i) (un := un) (SW := SW) (SL := SL) Hw s hm hp hy hi (Or.inl k6) t2 t1 cc c8 (fun g1 h1 => (s3 g1 h1).1) (fun g1 h1 => (s3 g1 h1).2) sp (by
    rcases hun with z | ⟨q, q1, q2, q3⟩
    · exact Or.inl ⟨z, n28⟩
    · exact Or.inr ⟨q, q1, q2, Or.inr ⟨k6, q3⟩⟩)
  refine ⟨_, _, key, fun P q => ?_, fun P q => yp_p hg (B16.trans t2) (B11.trans cc) c8 q⟩
  have e3 : nI g * 3 = nI (3 * g) := by
    rw [show (3 : Int32) = nI 3 from rfl, pk_mul]; exact congrArg nI (by omega)
  have hrw : xa_running w = nI g := Hw.2.2.1
  rw [ux_enterAlternativeOrWait_89, ux_offerCases, hrw, e3]
  refine nm_e ⟨1 + (st_e (xa_kinds w) i n + 1 - i), s4 _ 1 ?_⟩
  rw [ux_offerCases_11]
  refine br_t (show nI (st_e (xa_kinds w) i n) < nI (st_e (xa_kinds w) i n + 1) from nI_lt (by omega) (by omega)) ?_
  have r1 : xa_running (os_s w SW SL) = nI g := (Hw.2.2.1 : xb_running w = nI g)
  have r2 : xa_waitsBegun (os_s w SW SL) = nI w' := (t2 : xb_waitsBegun w = nI w')
  exact xb_p hg ht r1 r2 q
theorem ek_6 {W : Nat} {u : SX} {v : SY} {n S g j i : Nat} (E0 : ex_at W u v n S g j i) (k : xa_kinds u i = 6) : ex_x (W + 1) u v g i := by
  have E := at_up (Nat.le_succ W) E0
  obtain ⟨hg, j4, hr, d1, d2, i60, _, TY⟩ := at_f E
  obtain ⟨_, _, _, hp, hx, hy, hi⟩ := id E
  obtain ⟨w, hw, Hw0, s, hm, pw, wk, wA, wB, wC, wv⟩ := at_g E0
  have Hw := rl_mid_up (Nat.le_succ W) Hw0
  have T := Hw.1.2.1
  have Tw := Hw.1.2.1
  obtain ⟨L0, B1, B2, B3, B4, B5, B6, B7, B8, B9, B10, B11, B12, B13, B14, B15, B16, B17, B18, B19, B20, B21, B22⟩ := id Hw.1.1
  have ku := k
  have k : xa_kinds w i = 6 := by rw [wk]; exact ku
  have kY : ya_kind v i = 6 := by rw [B1]; exact k
  have ht := (mid_t Hw).1
  have n60 := T.2.1.1
  have op : st_op (xa_kinds w i) := by rw [k]; decide
  obtain ⟨p1, p2, p3, p4, p5⟩ := un_opn T.2.1 hi op
  have opn : ∀ P : SY → Prop, wpY_part (fun r_1 => ∃ n10 : Nat, cy_select_10 P (nI g) (nI i) v n10 (-1) r_1) v (nI i) (nI i) → wpY_execute P v (nI g) (nI i) := fun P q => yy_6 hg j4 d2 i60 kY (by rw [uy_select]; exact q)
  by_cases all : ∀ l, cs_is (xa_kinds w) n i l → cs_w w v (4 * g + j) l
  · have xe : ∀ P : SX → Prop, wpX_enterAlternativeOrWait P w (nI (4 * g + j)) (nI i) (nI (st_e (xa_kinds w) i n)) → wpX_execute P u := by
      intro P q
      refine xx_6 hg j4 hr d1 hx i60 ku ?_
      rw [hw]
      refine cm_pre Tw hi k (⟨1 + (st_e (xa_kinds w) i n + 1 - i), cm_fw (v := v) Tw hi k (st_e (xa_kinds w) i n + 1 - i) (st_e (xa_kinds w) i n + 1) (by omega) (Nat.le_refl _) (fun l _ hl => all l hl) P 1 ?_⟩)
      rw [ux_communicate_25]
      exact br_t (show nI (st_e (xa_kinds w) i n) < nI (st_e (xa_kinds w) i n + 1) from nI_lt (by omega) (by omega)) q
    have ye : ∀ P : SY → Prop, (∀ m x3, ot_ok (xa_kinds w) n i n x3 → cy_select_10 P (nI g) (nI i) v (m + 1) x3 (-1)) → wpY_execute P v (nI g) (nI i) := by
      intro P q
      refine opn P (ys_end (u := w) TY hg j4 d2 B1 B2 B3 B18 hi k all q n i (-1) (Or.inl rfl) (by omega) (Or.inr ⟨fun a ha y => ?_, rfl⟩) _ (fun r hr => ⟨_, hr⟩))
      have := al_in T.2.1 y.1 y.2.1 (al_n1 y.2.2)
      omega
    have vi : vp_in (nI i) 60 := vp_in_nI i60 (by decide)
    have ci : (nI i).toNatClampNeg = i := nI_clamp (by omega)
    by_cases ex : ∃ a, al_is (xa_kinds w) n i a
    · obtain ⟨a, ha⟩ := ex
      have a60 : a < 60 := by have := ha.1; omega
      have va : vp_in (nI a) 60 := vp_in_nI a60 (by decide)
      have ca : (nI a).toNatClampNeg = a := nI_clamp (by omega)
      have anx := st_nx T.2.1 ha.1 (al_n1 ha.2.2)
      have xa : ∀ P : SX → Prop, cx_enterAlternativeOrWait_20 P (nI (4 * g + j)) (nI i) (nI (st_e (xa_kinds w) i n)) (nI a) w → wpX_execute P u := by
        intro P q
        refine xe P ?_
        rw [ux_enterAlternativeOrWait, ci]
        refine ⟨vi, br_t k (xa_alt Tw hi k (fun a' ha' => ?_) (fun no => absurd ha (no a)))⟩
        rw [al_u T.2.2.2.1 ha' ha]
        exact q
      have oa : ∀ x3, ot_ok (xa_kinds w) n i n x3 → x3 = nI a := by
        intro x3 ho
        rcases ho with ⟨a', o1, _, o3⟩ | ⟨o1, _⟩
        · rw [o3, al_u T.2.2.2.1 o1 ha]
        · exact absurd ha (o1 a (by have := ha.1; omega))
      have goa : ∀ (A : (SX → Prop) → Prop) (B : (SY → Prop) → Prop), (∀ P : SX → Prop, P (xs_position w (upd (xa_position w) (4 * g + j) (nI (a + 1)))) → A P) → (∀ P : SY → Prop, wpY_goOn P v (nI g) (nI (a + 1)) → B P) → ex_r (W + 1) A B := by
        intro A B hA hB
        exact ex_go (p := a + 1) (mid_pos Hw) (s : xb_state w = 1) (hm : xb_mode w (4 * g + j) = 0) hp (pk_us : upd (xa_position w) (4 * g + j) (nI (a + 1)) (4 * g + j) = nI (a + 1)) anx anx rfl hA hB
      rcases st_pa_iff.mp ha.2.2 with k9 | k29
      · refine goa _ _ (fun P q => xa P ?_) (fun P q => ye P (fun m x3 ho => ?_))
        · rw [ux_enterAlternativeOrWait_20, ca]
          refine br_f (ne_m1 (by omega)) ⟨va, br_f (show ¬ xa_kinds w a = 29 by rw [k9]; decide) ?_⟩
          rw [ux_enterAlternativeOrWait_61, nI_clamp (show 4 * g + j < 2 ^ 31 by omega), nI_1]
          exact br_f (by decide) ⟨vp_in_nI ht (by decide), nm_e q⟩
        · rw [oa x3 ho, uy_select_10, ca, B1]
          refine br_t (by decide) (br_f (nI_pos (by omega)) ⟨va, br_t k9 ?_⟩)
          rw [uy_select_214, uy_select_229, nI_1]
          exact br_f (nI_pos (by omega)) (br_f (by decide) q)
      · have yv : ∀ (P : SY → Prop) m, cy_select_229 P (nI g) (nI a) (rl_val (xa_variables w) (4 * g + j) (xa_argA w a)) v → cy_select_10 P (nI g) (nI i) v (m + 1) (nI a) (-1) := by
          intro P m q
          rw [uy_select_10, ca, B1]
          refine br_t (by decide) (br_f (nI_pos (by omega)) ⟨va, br_f (by rw [k29]; decide) ⟨va, ?_⟩⟩)
          rw [B2]
          refine yv_val hg j4 d2 ?_
          rw [B18]; exact q
        have xv : ∀ P : SX → Prop, cx_enterAlternativeOrWait_61 P (nI (4 * g + j)) (nI i) (nI (st_e (xa_kinds w) i n)) (nI a) (rl_val (xa_variables w) (4 * g + j) (xa_argA w a)) w → wpX_execute P u := by
          intro P q
          refine xa P ?_
          rw [ux_enterAlternativeOrWait_20, ca]
          exact br_f (ne_m1 (by omega)) ⟨va, br_t (show xa_kinds w a = 29 from k29) ⟨va, xv_val ht q⟩⟩
        by_cases pos : 0 < rl_val (xa_variables w) (4 * g + j) (xa_argA w a)
        · obtain ⟨w', s', t1, t2, t3, t4⟩ := id Hw0.1.2.2.2.2.2.2.2.2.1
          have np : ¬ rl_val (xa_variables w) (4 * g + j) (xa_argA w a) ≤ 0 := Int32.not_le.mpr pos
          obtain ⟨q0, q1, q2⟩ := lN_a (s := s') np
          have le : s' + q0 ≤ (W + 1) * 2 ^ 31 := by
            rw [Nat.add_mul, Nat.one_mul]
            exact Nat.add_le_add t3 (Nat.le_of_lt q1)
          obtain ⟨u', v', o1, o2, o3⟩ := wt_sel (un := lN (s' + q0)) Hw0 s hm hp hy hi k (Or.inr ⟨s' + q0, le, rfl, a, ha.1, ha.2.1, k29⟩)
          refine ex_of o1 (fun P q => xv P ?_) (fun P q => ye P (fun m x3 ho => ?_))
          · rw [ux_enterAlternativeOrWait_61, t4, q2]
            exact br_t pos (nm_e (o2 P q))
          · have B7' : ya_clock v = lN s' := B7.trans t4
            rw [oa x3 ho]
            refine yv P m ?_
            rw [uy_select_229]
            refine br_f (nI_pos (by omega)) (br_t pos ?_)
            rw [uy_select_251, B7', q2]
            refine br_t (nI_pos' (by omega)) ?_
            rw [uy_select_271]
            exact o3 P q
        · refine goa _ _ (fun P q => xv P ?_) (fun P q => ye P (fun m x3 ho => ?_))
          · rw [ux_enterAlternativeOrWait_61, nI_clamp (show 4 * g + j < 2 ^ 31 by omega), nI_1]
            exact br_f pos ⟨vp_in_nI ht (by decide), nm_e q⟩
          · rw [oa x3 ho]
            refine yv P m ?_
            rw [uy_select_229, nI_1]
            exact br_f (nI_pos (by omega)) (br_f pos q)
    · obtain ⟨u', v', o1, o2, o3⟩ := wt_sel (un := -1) Hw0 s hm hp hy hi k (Or.inl rfl)
      refine ex_of o1 (fun P q => xe P ?_) (fun P q => ye P (fun m x3 ho => ?_))
      · rw [ux_enterAlternativeOrWait, ci]
        refine ⟨vi, br_t k (xa_alt Tw hi k (fun a' ha' => absurd ⟨a', ha'⟩ ex) (fun no => ?_))⟩
        rw [ux_enterAlternativeOrWait_20]
        exact br_t rfl (o2 P q)
      · rcases ho with ⟨a', oo, _⟩ | ⟨_, oo⟩
        · exact absurd ⟨a', oo⟩ ex
        · rw [oo, uy_select_10]
          refine br_t (by decide) (br_t (by decide) ?_)
          rw [uy_select_214, uy_select_229]
          refine br_t (by decide) ?_
          rw [uy_select_251]
          refine br_f (by decide) ?_
          rw [uy_select_271]
          exact o3 P q
  · have exl : ∃ l, l < n ∧ (cs_is (xa_kinds w) n i l ∧ ¬ cs_w w v (4 * g + j) l) := by
      apply Classical.byContradiction
      intro no
      apply all
      intro l hl
      apply Classical.byContradiction
      intro q
      exact no ⟨l, hl.1, hl, q⟩
    obtain ⟨l, ln, ⟨hl, nw⟩, first⟩ := fst_ex n exl
    have hc : ∀ l', l' < l → cs_is (xa_kinds w) n i l' → cs_w w v (4 * g + j) l' := by
      intro l' h1 h2
      apply Classical.byContradiction
      intro q
      exact first l' h1 ⟨h2, q⟩
    have lin := al_in T.2.1 ln hl.2.1 (by rcases st_pc_iff.mp hl.2.2 with e | e <;> (rw [e]; decide))
    have lnx := st_nx T.2.1 ln (by rcases st_pc_iff.mp hl.2.2 with e | e <;> (rw [e]; decide))
    have l60 : l < 60 := by omega
    have vl : vp_in (nI l) 60 := vp_in_nI l60 (by decide)
    have cl : (nI l).toNatClampNeg = l := nI_clamp (by omega)
    have xe : ∀ P : SX → Prop, (∀ m, cx_communicate_25 P (nI (4 * g + j)) (nI i) (nI (st_e (xa_kinds w) i n)) (m + 1) (nI l) w) → wpX_execute P u := by
      intro P q
      exact xx_6 hg j4 hr d1 hx i60 ku (by rw [hw]; exact cm_pre Tw hi k ⟨0 + 1 + (l - i), cm_fw (v := v) Tw hi k (l - i) l (by omega) (show l ≤ st_e (xa_kinds w) i n + 1 by omega) (fun l' h1 h2 => hc l' h1 h2) P (0 + 1) (q 0)⟩)
    have ye : ∀ P : SY → Prop, (∀ m x3, cy_select_10 P (nI g) (nI i) v (m + 1) x3 (nI l)) → wpY_execute P v (nI g) (nI i) := fun P q => opn P (ys_act (u := w) TY hg j4 d2 B1 B2 B3 B18 hi k hl hc q (l - i) i (-1) (Or.inl rfl) (by omega) (Nat.le_refl _) _ (fun r hr => ⟨_, hr⟩))
    have fin : ∀ (P : SX → Prop) (m : Nat) (r0 : Int32) (u0 : SX), (r0 = 0 → P (xs_position u0 (upd (xa_position u0) (4 * g + j) (nI (l + 1))))) → (r0 = 2 → wpX_panic P u0 (nI (4 * g + j)) (-1)) → (r0 = 0 ∨ r0 = 2) → cx_communicate_75 P (cx_communicate_25 P (nI (4 * g + j)) (nI i) (nI (st_e (xa_kinds w) i n)) m) (nI (4 * g + j)) (nI i) (nI (st_e (xa_kinds w) i n)) (nI l) r0 u0 := by
      intro P m r0 u0 h0 h2 hr0
      rw [ux_communicate_75, nI_clamp (show 4 * g + j < 2 ^ 31 by omega), nI_1]
      refine br_c (fun z => ⟨vp_in_nI ht (by decide), nm_e (h0 z)⟩) (fun z => br_c h2 (fun y => ?_))
      rcases hr0 with q | q
      · exact absurd q z
      · exact absurd q y
    have notw : ¬ l = i := by omega
    rcases st_pc_iff.mp hl.2.2 with k7 | k8
    · have yl : ∀ (P : SY → Prop) m x3, wpY_canSend (fun r_399 => (r_399 = 0 → cy_select_147 P (cy_select_10 P (nI g) (nI i) v m) (nI g) (nI i) x3 (nI l) (rl_val (xa_variables w) (4 * g + j) (xa_argA w l)) v) ∧ (¬ r_399 = 0 → (vp_in (nI l) 60 ∧ wpY_value (fun r_443 => wpY_send (fun r_485 u486 => (r_485 = 0 → wpY_panic P u486 (nI g) (-1)) ∧ (¬ r_485 = 0 → wpY_goOn P u486 (nI g) (nI (l + 1)))) v (rl_val (xa_variables w) (4 * g + j) (xa_argA w l)) r_443) v (nI g) (ya_opB v l)))) v (rl_val (xa_variables w) (4 * g + j) (xa_argA w l)) → cy_select_10 P (nI g) (nI i) v (m + 1) x3 (nI l) := by
        intro P m x3 q
        have lt : xa_kinds w l < 9 := by rw [k7]; decide
        rw [uy_select_10, cl, B1]
        refine br_f (nI_pos (by omega)) ⟨vl, br_t lt ⟨vl, br_t k7 ⟨vl, ?_⟩⟩⟩
        rw [uy_select_62, B2]
        refine yv_val hg j4 d2 ?_
        rw [B18, uy_select_65, cl, B1]
        refine ⟨vl, br_t lt ?_⟩
        rw [uy_select_82, cl, B1, nI_1]
        exact ⟨vl, br_t k7 q⟩
      have xl : ∀ (P : SX → Prop) (m : Nat), wpX_trySend (fun r_216 u217 => cx_communicate_75 P (cx_communicate_25 P (nI (4 * g + j)) (nI i) (nI (st_e (xa_kinds w) i n)) m) (nI (4 * g + j)) (nI i) (nI (st_e (xa_kinds w) i n)) (nI l) r_216 u217) w (nI (4 * g + j)) (nI l) → cx_communicate_25 P (nI (4 * g + j)) (nI i) (nI (st_e (xa_kinds w) i n)) (m + 1) (nI l) w := by
        intro P m q
        rw [ux_communicate_25]
        exact br_f (nI_nlt (by omega) (by omega)) (xs_of Tw hi ln (fun _ => br_f (by decide) q) (fun z => absurd (Or.inr ⟨notw, hl.2.1, k7⟩) z))
      rcases ts_all (a := rl_val (xa_variables w) (4 * g + j) (xa_argA w l)) (b := rl_val (xa_variables w) (4 * g + j) (xa_argB w l)) Hw ln rfl rfl with ⟨x1, y1⟩ | ⟨x1, y1, y2⟩ | ⟨u', v', x1, y1, y2, K⟩
      · exact absurd ⟨fun _ => ⟨x1, y1⟩, fun z => absurd (k7.symm.trans z) (by decide)⟩ nw
      · refine ex_pa (x := -1) Hw s (fun P q => xe P (fun m => xl P m (x1 _ (fin P m 2 _ (fun z => absurd z (by decide)) (fun _ => q) (Or.inr rfl))))) (fun P q => ye P (fun m x3 => yl P m x3 (y1 _ (br_f (by decide) ⟨vl, ?_⟩))))
        rw [B3]
        refine yv_val hg j4 d2 ?_
        rw [B18]
        exact y2 _ (br_t rfl q)
      · obtain ⟨K1, K2, K3, K4, K5⟩ := K
        refine ex_go (p := l + 1) (p' := l + 1) (mid_pos K1) (K2.trans s : xb_state u' = 1) (K3.trans hm : xb_mode u' (4 * g + j) = 0) (K4.trans hp) (pk_us : upd (xa_position u') (4 * g + j) (nI (l + 1)) (4 * g + j) = nI (l + 1)) lnx lnx rfl (fun P q => xe P (fun m => xl P m (x1 _ (fin P m 0 _ (fun _ => q) (fun z => absurd z (by decide)) (Or.inl rfl))))) (fun P q => ye P (fun m x3 => yl P m x3 (y1 _ (br_f (by decide) ⟨vl, ?_⟩))))
        rw [B3]
        refine yv_val hg j4 d2 ?_
        rw [B18]
        exact y2 _ (br_f (by decide) q)
    · have yl : ∀ (P : SY → Prop) m x3, wpY_canReceive (fun r_272 => (r_272 = 0 → cy_select_187 P (cy_select_10 P (nI g) (nI i) v m) (nI g) (nI i) x3 (nI l) v) ∧ (¬ r_272 = 0 → wpY_receive (fun u316 => wpY_goOn P u316 (nI g) (nI (l + 1))) v (nI g) (nI l) (rl_val (xa_variables w) (4 * g + j) (xa_argB w l)))) v (rl_val (xa_variables w) (4 * g + j) (xa_argB w l)) → cy_select_10 P (nI g) (nI i) v (m + 1) x3 (nI l) := by
        intro P m x3 q
        have lt : xa_kinds w l < 9 := by rw [k8]; decide
        have n7 : ¬ xa_kinds w l = 7 := by rw [k8]; decide
        rw [uy_select_10, cl, B1]
        refine br_f (nI_pos (by omega)) ⟨vl, br_t lt ⟨vl, br_f n7 ⟨vl, ?_⟩⟩⟩
        rw [uy_select_62, B3]
        refine yv_val hg j4 d2 ?_
        rw [B18, uy_select_65, cl, B1]
        refine ⟨vl, br_t lt ?_⟩
        rw [uy_select_82, cl, B1]
        refine ⟨vl, br_f n7 ?_⟩
        rw [uy_select_147, cl, B1, nI_1]
        exact ⟨vl, br_t k8 q⟩
      have xl : ∀ (P : SX → Prop) (m : Nat), wpX_tryReceive (fun r_175 u176 => cx_communicate_75 P (cx_communicate_25 P (nI (4 * g + j)) (nI i) (nI (st_e (xa_kinds w) i n)) m) (nI (4 * g + j)) (nI i) (nI (st_e (xa_kinds w) i n)) (nI l) r_175 u176) w (nI (4 * g + j)) (nI l) → cx_communicate_25 P (nI (4 * g + j)) (nI i) (nI (st_e (xa_kinds w) i n)) (m + 1) (nI l) w := by
        intro P m q
        have cR : c_R (xa_kinds w) i l := Or.inr ⟨notw, hl.2.1, k8⟩
        rw [ux_communicate_25]
        exact br_f (nI_nlt (by omega) (by omega)) (xs_of Tw hi ln (fun z => absurd cR (c_SR z)) (fun _ => br_t rfl (xr_of Tw hi ln (fun _ => br_f (by decide) q) (fun z => absurd cR z))))
      rcases tr_all (b := rl_val (xa_variables w) (4 * g + j) (xa_argB w l)) Hw ln (Or.inl k8) rfl with ⟨x1, y1⟩ | ⟨u', v', x1, y1, y2, K⟩
      · exact absurd ⟨fun z => absurd (k8.symm.trans z) (by decide), fun _ => ⟨x1, y1⟩⟩ nw
      · obtain ⟨K1, K2, K3, K4, K5⟩ := K
        exact ex_go (p := l + 1) (p' := l + 1) (mid_pos K1) (K2.trans s : xb_state u' = 1) (K3.trans hm : xb_mode u' (4 * g + j) = 0) (K4.trans hp) (pk_us : upd (xa_position u') (4 * g + j) (nI (l + 1)) (4 * g + j) = nI (l + 1)) lnx lnx rfl (fun P q => xe P (fun m => xl P m (x1 _ (fin P m 0 _ (fun _ => q) (fun z => absurd z (by decide)) (Or.inl rfl))))) (fun P q => ye P (fun m x3 => yl P m x3 (y1 _ (br_f (by decide) (y2 _ q)))))
