/-! CLOSE -/
def cz_n (f : Nat → Int32) : Nat → Nat
  | 0 => 0
  | i + 1 => cz_n f i + if f i = 2 then 1 else 0
theorem cz_le {f : Nat → Int32} : ∀ i, cz_n f i ≤ i := by
  intro i
  induction i with
  | zero => exact Nat.le_refl _
  | succ i ih =>
    show cz_n f i + (if f i = 2 then 1 else 0) ≤ i + 1
    by_cases c : f i = 2
    · rw [if_pos c]; omega
    · rw [if_neg c]; omega
theorem cz_up {f : Nat → Int32} {b : Nat} (h : f b = 2) : ∀ i, (i ≤ b → cz_n (upd f b 1) i = cz_n f i) ∧ (b < i → cz_n (upd f b 1) i + 1 = cz_n f i) := by
  intro i
  induction i with
  | zero => exact ⟨fun _ => rfl, fun z => by omega⟩
  | succ i ih =>
    constructor
    · intro hi
      show cz_n (upd f b 1) i + (if upd f b 1 i = 2 then 1 else 0) = cz_n f i + (if f i = 2 then 1 else 0)
      rw [ih.1 (by omega), pk_un (by omega)]
    · intro hi
      show cz_n (upd f b 1) i + (if upd f b 1 i = 2 then 1 else 0) + 1 = cz_n f i + (if f i = 2 then 1 else 0)
      by_cases c : i = b
      · subst c
        rw [ih.1 (by omega), pk_us, if_neg (by decide), if_pos h]
      · rw [pk_un c]
        have := ih.2 (by omega)
        omega
theorem cz_0 {f : Nat → Int32} : ∀ i, cz_n f i = 0 → ∀ b, b < i → ¬ f b = 2 := by
  intro i
  induction i with
  | zero => intro _ b hb; omega
  | succ i ih =>
    intro h b hb
    have h : cz_n f i + (if f i = 2 then 1 else 0) = 0 := h
    by_cases c : f i = 2
    · rw [if_pos c] at h; omega
    · by_cases e : b = i
      · subst e; exact c
      · exact ih (by omega) b (by omega)
theorem wz0 {e : Nat} : wsh e 0 = nI e := if_pos rfl
theorem wz1 {e : Nat} : wsh e 1 = -(nI e) := if_neg (by decide)
theorem cl_n37 {W : Nat} {r : Option Nat} {u : SX} {v : SY} {n S e : Nat} (H : rl_co W r u v n S) (q : bst u S (e + 1) 0 = none) : ∀ d i, i + d = 12 → ∀ (P : SX → Prop) m, d < m → (∃ m9, cx_closeChannel_99 P (nI (e + 1)) m9 0 u) → cx_closeChannel_37 P (nI (e + 1)) m (nI i) u := by
  intro d
  induction d with
  | zero =>
    intro i hi P m hm h
    obtain ⟨m, rfl⟩ : ∃ q, m = q + 1 := ⟨m - 1, by omega⟩
    rw [ux_closeChannel_37]
    exact br_t (nI_le (a := 12) (by omega) (by omega)) h
  | succ d ih =>
    intro i hi P m hm h
    obtain ⟨m, rfl⟩ : ∃ q, m = q + 1 := ⟨m - 1, by omega⟩
    rw [ux_closeChannel_37, ← wz0 (e := e + 1)]
    refine br_f (nI_ge (b := 12) (by omega) (by decide)) (lo_x H ?_)
    rw [q, wz0]
    exact br_t rfl (nm_r (nI_1 _) (ih (i + 1) (by omega) P m (by omega) h))
theorem cl_n99 {W : Nat} {r : Option Nat} {u : SX} {v : SY} {n S e : Nat} (H : rl_co W r u v n S) (q : bst u S (e + 1) 1 = none) : ∀ d i, i + d = 12 → ∀ (P : SX → Prop) m, d < m → P u → cx_closeChannel_99 P (nI (e + 1)) m (nI i) u := by
  intro d
  induction d with
  | zero =>
    intro i hi P m hm h
    obtain ⟨m, rfl⟩ : ∃ q, m = q + 1 := ⟨m - 1, by omega⟩
    rw [ux_closeChannel_99]
    exact br_t (nI_le (a := 12) (by omega) (by omega)) h
  | succ d ih =>
    intro i hi P m hm h
    obtain ⟨m, rfl⟩ : ∃ q, m = q + 1 := ⟨m - 1, by omega⟩
    rw [ux_closeChannel_99, ← wz1]
    refine br_f (nI_ge (b := 12) (by omega) (by decide)) (lo_x H ?_)
    rw [q]
    exact br_t rfl (nm_r (nI_1 _) (ih (i + 1) (by omega) P m (by omega) h))
theorem cl_37 {W n S g j e : Nat} (e8 : e < 8) : ∀ d i u v, i + d = 12 → rl_mid W u v n S g (j + 1) → cz_n (ya_status v) 12 ≤ d →
    ∃ u' v', (∀ (P : SX → Prop) m, d < m → (∃ m9, cx_closeChannel_99 P (nI (e + 1)) m9 0 u') → cx_closeChannel_37 P (nI (e + 1)) m (nI i) u) ∧ (∀ (P : SY → Prop) m, d < m → wpY_longest (fun r_46 => ∃ n59 : Nat, cy_close_59 P (nI (e + 1)) n59 r_46 v') v' (nI (e + 1)) 1 → ∀ R : Int32 → Prop, (∀ r, cy_close_16 P (nI (e + 1)) m r v → R r) → wpY_longest R v (nI (e + 1)) 0) ∧ sr_ok W u u' v v' n S g j ∧ xa_position u' (4 * g + j) = xa_position u (4 * g + j) := by
  have none_ : ∀ d i u v, i + d = 12 → rl_mid W u v n S g (j + 1) → bst u S (e + 1) 0 = none → ∃ u' v', (∀ (P : SX → Prop) m, d < m → (∃ m9, cx_closeChannel_99 P (nI (e + 1)) m9 0 u') → cx_closeChannel_37 P (nI (e + 1)) m (nI i) u) ∧ (∀ (P : SY → Prop) m, d < m → wpY_longest (fun r_46 => ∃ n59 : Nat, cy_close_59 P (nI (e + 1)) n59 r_46 v') v' (nI (e + 1)) 1 → ∀ R : Int32 → Prop, (∀ r, cy_close_16 P (nI (e + 1)) m r v → R r) → wpY_longest R v (nI (e + 1)) 0) ∧ sr_ok W u u' v v' n S g j ∧ xa_position u' (4 * g + j) = xa_position u (4 * g + j) := by
    intro d i u v hi H q
    refine ⟨u, v, fun P m hm h => cl_n37 H.1 q d i hi P m hm h, fun P m hm h R hR => lo_y H.1 (mid_rn H) (by omega) (by omega) (Or.inl rfl) ?_, ⟨H, rfl, rfl, rfl, rfl⟩, rfl⟩
    obtain ⟨m, rfl⟩ : ∃ q, m = q + 1 := ⟨m - 1, by omega⟩
    rw [q]
    refine hR _ ?_
    rw [uy_close_16]
    exact br_t (by decide) h
  intro d
  induction d with
  | zero =>
    intro i u v hi H hc
    refine none_ 0 i u v hi H ?_
    cases q : bst u S (e + 1) 0 with
    | none => rfl
    | some b =>
      obtain ⟨_, _, _, _, bS, _, _, _, _, _, _, _, _, stY, _⟩ := lo_some H.1 (mid_rn H) (by omega) (by omega) (Or.inl rfl) q
      have := H.1.2.2.1
      exact absurd stY (cz_0 12 (by omega) b (by omega))
  | succ d ih =>
    intro i u v hi H hc
    cases q : bst u S (e + 1) 0 with
    | none => exact none_ (d + 1) i u v hi H q
    | some b =>
      have T := H.1.2.1
      have n60 := T.2.1.1
      have hS := H.1.2.2.1
      obtain ⟨L0, B1, B2, B3, B4, B5, B6, B7, B8, B9, B10, B11, B12, B13, B14, B15, B16, B17, B18, B19, B20, B21, B22⟩ := id H.1.1
      obtain ⟨i0, l0, j0, i3, bS, br, ei, es, sl, l0n, l1n, lk, st, stY, j04, d1, d2, wl⟩ := lo_some H.1 (mid_rn H) (by omega) (by omega) (Or.inl rfl) q
      have bk : xa_kinds u l0 = 8 ∨ xa_kinds u l0 = 11 := by
        rcases lk with ⟨_, z⟩ | ⟨z, _⟩
        · exact z
        · exact absurd rfl z
      obtain ⟨p0, q0, p6, ep, q6, eq⟩ := ln_rc T l0n bk
      obtain ⟨L, L12, eL⟩ := que_len H.1.2.2.2.2.2.2.2.1 hS bS (fun z => absurd (stY.symm.trans z.1) (by decide))
      have V := V_fr (vars := xa_variables u) (b := b) (x := 0) (f := 0) j04 p6 q6
      have HM := mid_wake (f := l0) H bS br st d1 j04 eL L12 l1n V
      have c1 := (cz_up stY 12).2 (by omega)
      have jg := H.2.2.2.2.2.2.1
      have bg : ¬ b = g := fun z => br (by rw [z])
      have ne : ¬ 4 * g + j = 4 * b + j0 := by omega
      obtain ⟨u', v', a1, a2, a3⟩ := ih (i + 1) _ _ (by omega) HM (show cz_n (upd (ya_status v) b 1) 12 ≤ d by omega)
      have vs : vp_in (nI (3 * b + i0)) 36 := vp_in_nI (by omega) (by decide)
      have cs : (nI (3 * b + i0)).toNatClampNeg = 3 * b + i0 := nI_clamp (by omega)
      have dv : nI (3 * b + i0) / 3 = nI b := by rw [nI_d3 (by omega)]; exact congrArg nI (by omega)
      refine ⟨u', v', fun P m hm h => ?_, fun P m hm h R hR => ?_, ⟨a3.1.1, a3.1.2.1, a3.1.2.2.1, a3.1.2.2.2.1, a3.1.2.2.2.2⟩, a3.2.trans (pk_un ne : upd (xa_position u) (4 * b + j0) (nI (l0 + 1)) (4 * g + j) = _)⟩
      · obtain ⟨m, rfl⟩ : ∃ q, m = q + 1 := ⟨m - 1, by omega⟩
        rw [ux_closeChannel_37, ← wz0 (e := e + 1)]
        refine br_f (nI_ge (b := 12) (by omega) (by decide)) (lo_x H.1 ?_)
        rw [es, wz0]
        refine br_f (ne_m1 (by omega)) ⟨by decide, nm_r dv ⟨vs, ?_⟩⟩
        rw [cs, sl]
        refine xs_rec (by omega) j04 d1 (by omega) ep p6 eq q6 ⟨vs, ?_⟩
        have sl' : xa_slotLine (xs_variables u (upd (upd (xa_variables u) (6 * (4 * b + j0) + p0) 0) (6 * (4 * b + j0) + q0) 0)) (3 * b + i0) = nI l0 := sl
        rw [sl']
        exact xw_p (u := xs_variables u (upd (upd (xa_variables u) (6 * (4 * b + j0) + p0) 0) (6 * (4 * b + j0) + q0) 0)) (d := j0 + 1) (by omega) (by omega) (by omega) d1 eL L12 (nm_r (nI_1 _) (a1 P m (by omega) h))
      · obtain ⟨m, rfl⟩ : ∃ q, m = q + 1 := ⟨m - 1, by omega⟩
        refine lo_y H.1 (mid_rn H) (by omega) (by omega) (Or.inl rfl) ?_
        rw [q]
        refine hR _ ?_
        show cy_close_16 P (nI (e + 1)) (m + 1) (nI b) v
        rw [uy_close_16]
        refine br_f (nI_pos (by omega)) (wl _ (yg_give (by omega) j04 d2 (by omega) (by rw [B2]; exact ep) p6 (by rw [B4]; exact eq) q6 ?_))
        rw [B18]
        exact yw_p (v := ys_vars v (upd (upd (xa_variables u) (6 * (4 * b + j0) + p0) 0) (6 * (4 * b + j0) + q0) 0)) (by omega) (by omega) (B17.trans eL) L12 (a2 P m (by omega) h _ (fun r hr => hr))
theorem cl_99 {W n S g j e : Nat} (e8 : e < 8) : ∀ d i u v, i + d = 12 → rl_mid W u v n S g (j + 1) → cz_n (ya_status v) 12 ≤ d →
    ∃ u' v', (∀ (P : SX → Prop) m, d < m → P u' → cx_closeChannel_99 P (nI (e + 1)) m (nI i) u) ∧ (∀ (P : SY → Prop) m, d < m → P v' → ∀ R : Int32 → Prop, (∀ r, cy_close_59 P (nI (e + 1)) m r v → R r) → wpY_longest R v (nI (e + 1)) 1) ∧ sr_ok W u u' v v' n S g j ∧ xa_position u' (4 * g + j) = xa_position u (4 * g + j) := by
  have none_ : ∀ d i u v, i + d = 12 → rl_mid W u v n S g (j + 1) → bst u S (e + 1) 1 = none → ∃ u' v', (∀ (P : SX → Prop) m, d < m → P u' → cx_closeChannel_99 P (nI (e + 1)) m (nI i) u) ∧ (∀ (P : SY → Prop) m, d < m → P v' → ∀ R : Int32 → Prop, (∀ r, cy_close_59 P (nI (e + 1)) m r v → R r) → wpY_longest R v (nI (e + 1)) 1) ∧ sr_ok W u u' v v' n S g j ∧ xa_position u' (4 * g + j) = xa_position u (4 * g + j) := by
    intro d i u v hi H q
    refine ⟨u, v, fun P m hm h => cl_n99 H.1 q d i hi P m hm h, fun P m hm h R hR => lo_y H.1 (mid_rn H) (by omega) (by omega) (Or.inr rfl) ?_, ⟨H, rfl, rfl, rfl, rfl⟩, rfl⟩
    obtain ⟨m, rfl⟩ : ∃ q, m = q + 1 := ⟨m - 1, by omega⟩
    rw [q]
    refine hR _ ?_
    rw [uy_close_59]
    exact br_t (by decide) h
  intro d
  induction d with
  | zero =>
    intro i u v hi H hc
    refine none_ 0 i u v hi H ?_
    cases q : bst u S (e + 1) 1 with
    | none => rfl
    | some b =>
      obtain ⟨_, _, _, _, bS, _, _, _, _, _, _, _, _, stY, _⟩ := lo_some H.1 (mid_rn H) (by omega) (by omega) (Or.inr rfl) q
      have := H.1.2.2.1
      exact absurd stY (cz_0 12 (by omega) b (by omega))
  | succ d ih =>
    intro i u v hi H hc
    cases q : bst u S (e + 1) 1 with
    | none => exact none_ (d + 1) i u v hi H q
    | some b =>
      have T := H.1.2.1
      have n60 := T.2.1.1
      have hS := H.1.2.2.1
      obtain ⟨L0, B1, B2, B3, B4, B5, B6, B7, B8, B9, B10, B11, B12, B13, B14, B15, B16, B17, B18, B19, B20, B21, B22⟩ := id H.1.1
      obtain ⟨i0, l0, j0, i3, bS, br, ei, es, sl, l0n, l1n, lk, st, stY, j04, d1, d2, wl⟩ := lo_some H.1 (mid_rn H) (by omega) (by omega) (Or.inr rfl) q
      obtain ⟨L, L12, eL⟩ := que_len H.1.2.2.2.2.2.2.2.1 hS bS (fun z => absurd (stY.symm.trans z.1) (by decide))
      have HM := mid_doom (f := l0) H bS br st d1 j04 eL L12
      have c1 := (cz_up stY 12).2 (by omega)
      have jg := H.2.2.2.2.2.2.1
      have bg : ¬ b = g := fun z => br (by rw [z])
      have ne : ¬ 4 * g + j = 4 * b + j0 := by omega
      obtain ⟨u', v', a1, a2, a3⟩ := ih (i + 1) _ _ (by omega) HM (show cz_n (upd (ya_status v) b 1) 12 ≤ d by omega)
      have vs : vp_in (nI (3 * b + i0)) 36 := vp_in_nI (by omega) (by decide)
      have cs : (nI (3 * b + i0)).toNatClampNeg = 3 * b + i0 := nI_clamp (by omega)
      have dv : nI (3 * b + i0) / 3 = nI b := by rw [nI_d3 (by omega)]; exact congrArg nI (by omega)
      refine ⟨u', v', fun P m hm h => ?_, fun P m hm h R hR => ?_, ⟨a3.1.1, a3.1.2.1, a3.1.2.2.1, a3.1.2.2.2.1, a3.1.2.2.2.2⟩, a3.2.trans (pk_un ne : upd (xa_position u) (4 * b + j0) (nI (l0 + 1)) (4 * g + j) = _)⟩
      · obtain ⟨m, rfl⟩ : ∃ q, m = q + 1 := ⟨m - 1, by omega⟩
        rw [ux_closeChannel_99, ← wz1]
        refine br_f (nI_ge (b := 12) (by omega) (by decide)) (lo_x H.1 ?_)
        rw [es]
        refine br_f (ne_m1 (by omega)) ⟨by decide, vs, ?_⟩
        rw [dv, cs, sl]
        exact xw_p (d := j0 + 1) (by omega) (by omega) (by omega) d1 eL L12 (nm_r (nI_1 _) (a1 P m (by omega) h))
      · obtain ⟨m, rfl⟩ : ∃ q, m = q + 1 := ⟨m - 1, by omega⟩
        refine lo_y H.1 (mid_rn H) (by omega) (by omega) (Or.inr rfl) ?_
        rw [q]
        refine hR _ ?_
        show cy_close_59 P (nI (e + 1)) (m + 1) (nI b) v
        rw [uy_close_59, nI_clamp (show b < 2 ^ 31 by omega)]
        exact br_f (nI_pos (by omega)) ⟨vp_in_nI (by omega) (by decide), nm_r (show _ = upd (ya_shocked v) b 1 from rfl) (yr_p (v := ys_shocked v (upd (ya_shocked v) b 1)) (by omega) (B17.trans eL) L12 (a2 P m (by omega) h _ (fun r hr => hr)))⟩
theorem ek_12 {W : Nat} {u : SX} {v : SY} {n S g j i : Nat} (E : ex_at W u v n S g j i) (k : xa_kinds u i = 12) : ex_x W u v g i := by
  obtain ⟨hg, j4, hr, d1, d2, i60, T, TY⟩ := at_f E
  obtain ⟨B1, B2, ea, eb, ec⟩ := at_e E
  obtain ⟨_, _, _, hp, hx, hy, hi⟩ := id E
  obtain ⟨w, hw, Hw, s, hm, pw, wk, wA, wB, wC, wv⟩ := at_g E
  have kY : ya_kind v i = 12 := by rw [B1]; exact k
  have B11 : ya_made v = xa_channelCount w := Hw.1.1.2.2.2.2.2.2.2.2.2.2.2.1
  have B14 : ya_closed v = xa_closed w := Hw.1.1.2.2.2.2.2.2.2.2.2.2.2.2.2.2.1
  have nx := st_nx T.2.1 hi (by rw [k]; decide)
  obtain ⟨kc, k8, ek, ch⟩ := id Hw.1.2.2.2.2.2.2.1
  have ekY : ya_made v = nI kc := B11.trans ek
  have no : (rl_val (xa_variables u) (4 * g + j) (xa_argA u i) < 1 ∨ (¬ rl_val (xa_variables u) (4 * g + j) (xa_argA u i) < 1 ∧ nI kc < rl_val (xa_variables u) (4 * g + j) (xa_argA u i))) → ex_x W u v g i := by
    intro c
    refine ex_pa (x := -1) Hw s (fun P q => xx_12 hg j4 hr d1 hx i60 k ?_) (fun P q => yy_12 hg j4 d2 i60 kY ?_)
    · rw [hw, ux_closeChannel]
      refine xi_no ek c (br_t rfl ?_)
      rw [ux_closeChannel_19]; exact q
    · rw [ea]
      exact yi_no ekY c (br_t rfl q)
  rcases ch_c (a := rl_val (xa_variables u) (4 * g + j) (xa_argA u i)) k8 with c | c | ⟨e, ek', c, h1, h2⟩
  · exact no (Or.inl c)
  · exact no (Or.inr c)
  · rw [c] at h1 h2
    have e8 : e < 8 := by omega
    have ve : vp_in (nI e) 8 := vp_in_nI e8 (by decide)
    have ce : (nI e).toNatClampNeg = e := nI_clamp (by omega)
    by_cases cl0 : xa_closed w e = 0
    · have cl0Y : ya_closed v e = 0 := by rw [B14]; exact cl0
      have H0 := mid_cls (e := e) Hw
      have s0 : xa_state (xs_closed w (upd (xa_closed w) e 1)) = 1 := (s : xb_state w = 1)
      have m0 : xa_mode (xs_closed w (upd (xa_closed w) e 1)) (4 * g + j) = 0 := (hm : xb_mode w (4 * g + j) = 0)
      have p0 : xa_position (xs_closed w (upd (xa_closed w) e 1)) (4 * g + j) = nI (i + 1) := (pw : xb_position w (4 * g + j) = nI (i + 1))
      have n0 : ya_panics (ys_closed v (upd (ya_closed v) e 1)) (4 * g + j) = 0 := (hp : yb_panics v (4 * g + j) = 0)
      obtain ⟨wc, hwc⟩ : ∃ x, xs_closed w (upd (xa_closed w) e 1) = x := ⟨_, rfl⟩
      obtain ⟨vc, hvc⟩ : ∃ x, ys_closed v (upd (ya_closed v) e 1) = x := ⟨_, rfl⟩
      rw [hwc] at H0 s0 m0 p0
      rw [hvc] at H0 n0
      have c12 : ∀ f : Nat → Int32, cz_n f 12 ≤ 12 := fun f => cz_le 12
      obtain ⟨u1, v1, a1, a2, ⟨K1, K2, K3, K4, K5⟩, K6⟩ := cl_37 e8 12 0 wc vc (by omega) H0 (c12 _)
      obtain ⟨u2, v2, b1, b2, ⟨M1, M2, M3, M4, M5⟩, M6⟩ := cl_99 e8 12 0 u1 v1 (by omega) K1 (c12 _)
      refine ex_go M1 (M2.trans (K2.trans s0)) (M3.trans (K3.trans m0)) (M4.trans (K4.trans n0)) (M6.trans (K6.trans p0)) nx nx rfl (fun P q => xx_12 hg j4 hr d1 hx i60 k ?_) (fun P q => yy_12 hg j4 d2 i60 kY ?_)
      · rw [hw, c, ux_closeChannel, nI_p, ce]
        refine xi_yes ek h1 h2 (br_f (by decide) ⟨ve, br_t cl0 ⟨ve, nm_r (show _ = upd (xa_closed w) e 1 from rfl) ?_⟩⟩)
        rw [hwc]
        exact ⟨13, a1 P 13 (by omega) ⟨13, b1 P 13 (by omega) q⟩⟩
      · rw [ea, c, nI_p, ce]
        refine yi_yes ekY h1 h2 (br_f (by decide) ⟨ve, br_t cl0Y ?_⟩)
        rw [uy_close, nI_p, ce]
        refine ⟨ve, nm_r (show _ = upd (ya_closed v) e 1 from rfl) ?_⟩
        rw [hvc]
        exact a2 _ 13 (by omega) (b2 _ 13 (by omega) q _ (fun r hr => ⟨13, hr⟩)) _ (fun r hr => ⟨13, hr⟩)
    · have cl0Y : ¬ ya_closed v e = 0 := by rw [B14]; exact cl0
      refine ex_pa (x := -1) Hw s (fun P q => xx_12 hg j4 hr d1 hx i60 k ?_) (fun P q => yy_12 hg j4 d2 i60 kY ?_)
      · rw [hw, c, ux_closeChannel, nI_p, ce]
        refine xi_yes ek h1 h2 (br_f (by decide) ⟨ve, br_f cl0 ?_⟩)
        rw [ux_closeChannel_19]; exact q
      · rw [ea, c, nI_p, ce]
        exact yi_yes ekY h1 h2 (br_f (by decide) ⟨ve, br_f cl0Y q⟩)
