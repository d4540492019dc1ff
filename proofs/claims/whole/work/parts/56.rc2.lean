/-! receiving from a channel that holds values -/
/-- Y's values once the oldest has been taken -/
def v_sh (V : Nat → Int32) (e : Nat) : Nat → Int32 := upd (upd V (3 * e) (V (3 * e + 1))) (3 * e + 1) (upd V (3 * e) (V (3 * e + 1)) (3 * e + 2))
theorem v_sh_eq {h V : Nat → Int32} {e f : Nat} (f3 : f + 1 ≤ 3) (a6 : ∀ q, q < f + 1 → h (3 * e + q) = V (3 * e + q)) : ∀ q, q < f → h_sh h e f (3 * e + q) = v_sh V e (3 * e + q) := by
  intro q hq
  unfold h_sh v_sh
  rw [if_pos (by omega)]
  rcases (show q = 0 ∨ q = 1 by omega) with z | z <;> subst z
  · rw [pk_un (by omega), show 3 * e + 0 = 3 * e from rfl, pk_us]; exact a6 1 (by omega)
  · rw [pk_us, pk_un (by omega)]; exact a6 2 (by omega)
theorem v_sh_ne {h V : Nat → Int32} {e f i q : Nat} (f3 : f + 1 ≤ 3) (z : ¬ i = e) (q3 : q < 3) (hh : h (3 * i + q) = V (3 * i + q)) : h_sh h e f (3 * i + q) = v_sh V e (3 * i + q) := by
  unfold h_sh v_sh
  rw [if_neg (by omega), pk_un (by omega), pk_un (by omega)]; exact hh
def eq_x (u u1 : SX) : Prop := xa_argA u1 = xa_argA u ∧ xa_argB u1 = xa_argB u ∧ xa_argC u1 = xa_argC u ∧ xa_slotLine u1 = xa_slotLine u ∧ xa_status u1 = xa_status u ∧ xa_depth u1 = xa_depth u ∧ xa_queueLength u1 = xa_queueLength u ∧ xa_state u1 = xa_state u ∧ xa_mode u1 = xa_mode u ∧ xa_kinds u1 = xa_kinds u ∧ xa_capacity u1 = xa_capacity u ∧ xa_running u1 = xa_running u
def eq_y (v v1 : SY) : Prop := ya_depth v1 = ya_depth v ∧ ya_opA v1 = ya_opA v ∧ ya_opB v1 = ya_opB v ∧ ya_opC v1 = ya_opC v ∧ ya_panics v1 = ya_panics v ∧ ya_queued v1 = ya_queued v
theorem eq_x_t {u u1 u2 : SX} (a : eq_x u u1) (b : eq_x u1 u2) : eq_x u u2 := ⟨b.1.trans a.1, b.2.1.trans a.2.1, b.2.2.1.trans a.2.2.1, b.2.2.2.1.trans a.2.2.2.1, b.2.2.2.2.1.trans a.2.2.2.2.1, b.2.2.2.2.2.1.trans a.2.2.2.2.2.1, b.2.2.2.2.2.2.1.trans a.2.2.2.2.2.2.1, b.2.2.2.2.2.2.2.1.trans a.2.2.2.2.2.2.2.1, b.2.2.2.2.2.2.2.2.1.trans a.2.2.2.2.2.2.2.2.1, b.2.2.2.2.2.2.2.2.2.1.trans a.2.2.2.2.2.2.2.2.2.1, b.2.2.2.2.2.2.2.2.2.2.1.trans a.2.2.2.2.2.2.2.2.2.2.1, b.2.2.2.2.2.2.2.2.2.2.2.trans a.2.2.2.2.2.2.2.2.2.2.2⟩
theorem eq_y_t {v v1 v2 : SY} (a : eq_y v v1) (b : eq_y v1 v2) : eq_y v v2 := ⟨b.1.trans a.1, b.2.1.trans a.2.1, b.2.2.1.trans a.2.2.1, b.2.2.2.1.trans a.2.2.2.1, b.2.2.2.2.1.trans a.2.2.2.2.1, b.2.2.2.2.2.trans a.2.2.2.2.2⟩
theorem eq_xh {u : SX} {F H : Nat → Int32} : eq_x u (xs_held (xs_fill u F) H) := ⟨(rfl : xb_argA u = xb_argA u), (rfl : xb_argB u = xb_argB u), (rfl : xb_argC u = xb_argC u), (rfl : xb_slotLine u = xb_slotLine u), (rfl : xb_status u = xb_status u), (rfl : xb_depth u = xb_depth u), (rfl : xb_queueLength u = xb_queueLength u), (rfl : xb_state u = xb_state u), (rfl : xb_mode u = xb_mode u), (rfl : xb_kinds u = xb_kinds u), (rfl : xb_capacity u = xb_capacity u), (rfl : xb_running u = xb_running u)⟩
theorem eq_xv {u : SX} {V : Nat → Int32} : eq_x u (xs_variables u V) := ⟨(rfl : xb_argA u = xb_argA u), (rfl : xb_argB u = xb_argB u), (rfl : xb_argC u = xb_argC u), (rfl : xb_slotLine u = xb_slotLine u), (rfl : xb_status u = xb_status u), (rfl : xb_depth u = xb_depth u), (rfl : xb_queueLength u = xb_queueLength u), (rfl : xb_state u = xb_state u), (rfl : xb_mode u = xb_mode u), (rfl : xb_kinds u = xb_kinds u), (rfl : xb_capacity u = xb_capacity u), (rfl : xb_running u = xb_running u)⟩
theorem eq_yh {v : SY} {F H : Nat → Int32} : eq_y v (ys_values (ys_held v F) H) := ⟨(rfl : yb_depth v = yb_depth v), (rfl : yb_opA v = yb_opA v), (rfl : yb_opB v = yb_opB v), (rfl : yb_opC v = yb_opC v), (rfl : yb_panics v = yb_panics v), (rfl : yb_queued v = yb_queued v)⟩
theorem eq_yv {v : SY} {V : Nat → Int32} : eq_y v (ys_vars v V) := ⟨(rfl : yb_depth v = yb_depth v), (rfl : yb_opA v = yb_opA v), (rfl : yb_opB v = yb_opB v), (rfl : yb_opC v = yb_opC v), (rfl : yb_panics v = yb_panics v), (rfl : yb_queued v = yb_queued v)⟩
theorem tk_1 {W : Nat} {u : SX} {v : SY} {n S g j e f : Nat} (H : rl_mid W u v n S g (j + 1)) (hf : xa_fill u e = nI (f + 1)) (f3 : f + 1 ≤ 3) :
    ∃ u1 v1, xs_held (xs_fill u (upd (xa_fill u) e (nI f))) (h_sh (xa_held u) e f) = u1 ∧ ys_values (ys_held v (upd (ya_held v) e (nI f))) (v_sh (ya_values v) e) = v1 ∧ rl_mid W u1 v1 n S g (j + 1) ∧ eq_x u u1 ∧ eq_y v v1 ∧ xa_fill u1 e = nI f ∧ ya_held v1 e = nI f ∧ xa_variables u1 = xa_variables u ∧ ya_vars v1 = ya_vars v := by
  have B13 : ya_held v = xa_fill u := H.1.1.2.2.2.2.2.2.2.2.2.2.2.2.2.1
  obtain ⟨k0, k08, ek0, ch⟩ := id H.1.2.2.2.2.2.2.1
  refine ⟨xs_held (xs_fill u (upd (xa_fill u) e (nI f))) (h_sh (xa_held u) e f), ys_values (ys_held v (upd (ya_held v) e (nI f))) (v_sh (ya_values v) e), rfl, rfl, ?_, eq_xh, eq_yh, (pk_us : upd (xa_fill u) e (nI f) e = nI f), (pk_us : upd (ya_held v) e (nI f) e = nI f), (rfl : xb_variables u = xb_variables u), (rfl : yb_vars v = yb_vars v)⟩
  rw [B13]
  refine mid_chn H ⟨k0, k08, (ek0 : xb_channelCount u = nI k0), fun i hi => ?_⟩
  obtain ⟨f', q', x1, x2, x3, x4, x5, x6⟩ := ch i hi
  have x4 : xb_capacity u i = nI q' := x4
  have x5 : xb_closed u i = 0 ∨ xb_closed u i = 1 := x5
  by_cases z : i = e
  · subst z
    have ff : f' = f + 1 := (nI_eq (by omega) (by omega)).mp (x3.symm.trans hf)
    subst ff
    exact ⟨f, q', by omega, x2, (pk_us : upd (xa_fill u) i (nI f) i = _), x4, x5, (v_sh_eq f3 x6 : ∀ q, q < f → h_sh (xa_held u) i f (3 * i + q) = v_sh (ya_values v) i (3 * i + q))⟩
  · exact ⟨f', q', x1, x2, (pk_un z : upd (xa_fill u) e (nI f) i = _).trans x3, x4, x5, fun q hq => (v_sh_ne f3 z (by omega) (x6 q hq) : h_sh (xa_held u) e f (3 * i + q) = v_sh (ya_values v) e (3 * i + q))⟩
theorem tk_2 {W : Nat} {u : SX} {v : SY} {n S g j p q : Nat} (x y : Int32) (H : rl_mid W u v n S g (j + 1)) (p6 : p < 6) (q6 : q < 6) :
    ∃ u1 v1, xs_variables u (upd (upd (xa_variables u) (6 * (4 * g + j) + p) x) (6 * (4 * g + j) + q) y) = u1 ∧ ys_vars v (upd (upd (ya_vars v) (6 * (4 * g + j) + p) x) (6 * (4 * g + j) + q) y) = v1 ∧ rl_mid W u1 v1 n S g (j + 1) ∧ eq_x u u1 ∧ eq_y v v1 ∧ xa_fill u1 = xa_fill u ∧ ya_held v1 = ya_held v ∧ xa_variables u1 = upd (upd (xa_variables u) (6 * (4 * g + j) + p) x) (6 * (4 * g + j) + q) y :=
  ⟨xs_variables u (upd (upd (xa_variables u) (6 * (4 * g + j) + p) x) (6 * (4 * g + j) + q) y), ys_vars v (upd (upd (ya_vars v) (6 * (4 * g + j) + p) x) (6 * (4 * g + j) + q) y), rfl, rfl, mid_v2 H p6 q6, eq_xv, eq_yv, (rfl : xb_fill u = xb_fill u), (rfl : yb_held v = yb_held v), rfl⟩
theorem tk_3 {W : Nat} {u : SX} {v : SY} {n S g j e f cp : Nat} (x : Int32) (H : rl_mid W u v n S g (j + 1)) (hf : xa_fill u e = nI f) (hcp : xa_capacity u e = nI cp) (fc : f + 1 ≤ cp) (c3 : cp ≤ 3) :
    ∃ u1 v1, xs_held (xs_fill u (upd (xa_fill u) e (nI (f + 1)))) (upd (xa_held u) (3 * e + f) x) = u1 ∧ ys_values (ys_held v (upd (ya_held v) e (nI (f + 1)))) (upd (ya_values v) (3 * e + f) x) = v1 ∧ rl_mid W u1 v1 n S g (j + 1) ∧ eq_x u u1 ∧ eq_y v v1 := by
  have B13 : ya_held v = xa_fill u := H.1.1.2.2.2.2.2.2.2.2.2.2.2.2.2.1
  obtain ⟨k0, k08, ek0, ch⟩ := id H.1.2.2.2.2.2.2.1
  refine ⟨xs_held (xs_fill u (upd (xa_fill u) e (nI (f + 1)))) (upd (xa_held u) (3 * e + f) x), ys_values (ys_held v (upd (ya_held v) e (nI (f + 1)))) (upd (ya_values v) (3 * e + f) x), rfl, rfl, ?_, eq_xh, eq_yh⟩
  rw [B13]
  refine mid_chn H ⟨k0, k08, (ek0 : xb_channelCount u = nI k0), fun i hi => ?_⟩
  obtain ⟨f', q', x1, x2, x3, x4, x5, x6⟩ := ch i hi
  have x5 : xb_closed u i = 0 ∨ xb_closed u i = 1 := x5
  by_cases z : i = e
  · subst z
    have ff : f' = f := (nI_eq (by omega) (by omega)).mp (x3.symm.trans hf)
    subst ff
    refine ⟨f' + 1, cp, fc, c3, (pk_us : upd (xa_fill u) i (nI (f' + 1)) i = _), (hcp : xb_capacity u i = nI cp), x5, fun q hq => ?_⟩
    show upd (xa_held u) (3 * i + f') x (3 * i + q) = upd (ya_values v) (3 * i + f') x (3 * i + q)
    by_cases z : q = f'
    · subst z; rw [pk_us, pk_us]
    · rw [pk_un (by omega), pk_un (by omega)]; exact x6 q (by omega)
  · have x4 : xb_capacity u i = nI q' := x4
    refine ⟨f', q', x1, x2, (pk_un z : upd (xa_fill u) e (nI (f + 1)) i = _).trans x3, x4, x5, fun q hq => ?_⟩
    show upd (xa_held u) (3 * e + f) x (3 * i + q) = upd (ya_values v) (3 * e + f) x (3 * i + q)
    rw [pk_un (by omega), pk_un (by omega)]; exact x6 q hq
/-- Y's receive, up to the one that waits to send -/
theorem yr_25 {R : SY → Prop} {v v1 v2 : SY} {g j l e f p q : Nat} {x4 z0 : Int32} (hg : g < 12) (j4 : j < 4) (e8 : e < 8) (f3 : f + 1 ≤ 3) (l60 : l < 60) (hfY : ya_held v e = nI (f + 1)) (hv1 : ys_values (ys_held v (upd (ya_held v) e (nI f))) (v_sh (ya_values v) e) = v1) (d1 : ya_depth v1 g = nI (j + 1)) (ea : ya_opA v1 l = nI p) (p6 : p < 6) (ec : ya_opC v1 l = nI q) (q6 : q < 6)
    (hv2 : ys_vars v1 (upd (upd (ya_vars v1) (6 * (4 * g + j) + p) (ya_values v (3 * e))) (6 * (4 * g + j) + q) 1) = v2) (hf2 : ya_held v2 e = nI f)
    (h : ((x4 < 0 → cy_receive_155 R x4 z0 v2) ∧ (¬ x4 < 0 → vp_in z0 60 ∧ wpY_value (fun r_275 => cy_receive_155 R x4 z0 (ys_values (ys_held v2 (upd (ya_held v2) e (nI (f + 1)))) (upd (ya_values v2) (3 * e + f) r_275))) (ys_held v2 (upd (ya_held v2) e (nI (f + 1)))) x4 (ya_opB v2 z0.toNatClampNeg)))) : cy_receive_25 R (nI g) (nI l) (nI (e + 1)) x4 z0 v := by
  have ve : vp_in (nI e) 8 := vp_in_nI (by omega) (by decide)
  have ce : (nI e).toNatClampNeg = e := nI_clamp (by omega)
  have w0 : vp_in (nI (3 * e)) 24 := vp_in_nI (by omega) (by decide)
  have w1 : vp_in (nI (3 * e + 1)) 24 := vp_in_nI (by omega) (by decide)
  have w2 : vp_in (nI (3 * e + 2)) 24 := vp_in_nI (by omega) (by decide)
  have w3 : vp_in (nI (3 * e + f)) 24 := vp_in_nI (by omega) (by decide)
  have e3 : nI (3 * e) + nI f = nI (3 * e + f) := nI_add _ _
  have hv1' : ys_values (ys_held v (upd (ya_held v) e (nI f))) (upd (upd (ya_values v) (3 * e) (ya_values v (3 * e + 1))) (3 * e + 1) (upd (ya_values v) (3 * e) (ya_values v (3 * e + 1)) (3 * e + 2))) = v1 := hv1
  rw [uy_receive_25, nI_p, ce, hfY, nI_p, nb_64 f (by omega), iy32.1, iy32.2.1, iy32.2.2, nI_clamp (show 3 * e < 2 ^ 31 by omega), nI_clamp (show 3 * e + 1 < 2 ^ 31 by omega), nI_clamp (show 3 * e + 2 < 2 ^ 31 by omega)]
  refine ⟨ve, br_f (nI_nle (by omega) (by omega)) ⟨w0, nm_e ⟨w1, w0, nm_e ⟨w2, w1, nm_e ⟨ve, ve, nm_e ?_⟩⟩⟩⟩⟩
  rw [hv1']
  refine yg_give hg j4 d1 l60 ea p6 ec q6 ?_
  rw [hv2, hf2, e3, nI_1, nb_64 (f + 1) (by omega), nI_clamp (show 3 * e + f < 2 ^ 31 by omega)]
  refine br_c h.1 (fun z => ⟨ve, ve, nm_e ⟨(h.2 z).1, ?_⟩⟩)
  have ee : (fun r_275 : Int32 => (vp_in (nI (3 * e + f)) 24 ∧ ∀ a_values_318, a_values_318 = upd (ya_values v2) (3 * e + f) r_275 → (cy_receive_155 R x4 z0 (ys_values (ys_held v2 (upd (ya_held v2) e (nI (f + 1)))) a_values_318)))) = fun r_275 => cy_receive_155 R x4 z0 (ys_values (ys_held v2 (upd (ya_held v2) e (nI (f + 1)))) (upd (ya_values v2) (3 * e + f) r_275)) := by
    funext r
    exact propext ⟨fun z => z.2 _ rfl, fun z => ⟨w3, nm_e z⟩⟩
  rw [ee]
  exact (h.2 z).2
theorem tr_1 {W : Nat} {u : SX} {v : SY} {n S g j l e k f cp : Nat} (H : rl_mid W u v n S g (j + 1)) (hl : l < n) (kl : xa_kinds u l = 8 ∨ xa_kinds u l = 11) (eb : rl_val (xa_variables u) (4 * g + j) (xa_argB u l) = nI (e + 1)) (k8 : k ≤ 8) (ek : xa_channelCount u = nI k) (ek' : e < k) (h1 : ¬ nI (e + 1) < 1) (h2 : ¬ nI k < nI (e + 1)) (hf : xa_fill u e = nI (f + 1)) (f3 : f + 1 ≤ cp) (cp3 : cp ≤ 3) (hcp : xa_capacity u e = nI cp) (a6 : ∀ q, q < f + 1 → xa_held u (3 * e + q) = ya_values v (3 * e + q)) : tr_ok W u v n S g j l (nI (e + 1)) := by
  have T := H.1.2.1
  have n60 := T.2.1.1
  have B2 : ya_opA v = xa_argA u := H.1.1.2.2.1
  have B3 : ya_opB v = xa_argB u := H.1.1.2.2.2.1
  have B4 : ya_opC v = xa_argC u := H.1.1.2.2.2.2.1
  have B11 : ya_made v = xa_channelCount u := H.1.1.2.2.2.2.2.2.2.2.2.2.2.1
  have B13 : ya_held v = xa_fill u := H.1.1.2.2.2.2.2.2.2.2.2.2.2.2.2.1
  have B17 : ya_queued v = xa_queueLength u := H.1.1.2.2.2.2.2.2.2.2.2.2.2.2.2.2.2.2.2.1
  have ekY : ya_made v = nI k := B11.trans ek
  have ht := (mid_t H).1
  have hg := (mid_t H).2
  have j4 : j < 4 := by have := H.2.2.2.2.2.2.1; omega
  have Hr := mid_rn H
  have hS := H.1.2.2.1
  have vl : vp_in (nI l) 60 := vp_in_nI (by omega) (by decide)
  have cl : (nI l).toNatClampNeg = l := nI_clamp (by omega)
  have ve : vp_in (nI e) 8 := vp_in_nI (by omega) (by decide)
  have ce : (nI e).toNatClampNeg = e := nI_clamp (by omega)
  obtain ⟨p, q, p6, ep, q6, eq⟩ := ln_rc T hl kl
  have wz : wsh (e + 1) 1 = -(nI (e + 1)) := if_neg (by decide)
  have hfY : ya_held v e = nI (f + 1) := by rw [B13]; exact hf
  have first : ya_values v (3 * e) = xa_held u (3 * e) := (a6 0 (by omega)).symm
  have ycr : ∀ Q : Int32 → Prop, Q 1 → wpY_canReceive Q v (nI (e + 1)) := by
    intro Q q
    rw [uy_canReceive, nI_p, ce, hfY]
    refine yi_yes ekY h1 h2 (br_f (by decide) ⟨ve, br_c (fun _ => ⟨ve, br_t (nI_lt (a := 0) (by omega) (by omega)) q⟩) (fun _ => q)⟩)
  obtain ⟨u1, v1, hu1, hv1, H1, X1, Y1, F1, G1, V1, V1Y⟩ := tk_1 H hf (by omega)
  obtain ⟨u2, v2, hu2, hv2, H2, X2, Y2, F2, G2, V2⟩ := tk_2 (p := p) (q := q) (xa_held u (3 * e)) 1 H1 p6 q6
  have X12 := eq_x_t X1 X2
  have Y12 := eq_y_t Y1 Y2
  have ep1 : xa_argA u1 l = nI p := by rw [X1.1]; exact ep
  have eq1 : xa_argC u1 l = nI q := by rw [X1.2.2.1]; exact eq
  have epY1 : ya_opA v1 l = nI p := by rw [Y1.2.1, B2]; exact ep
  have eqY1 : ya_opC v1 l = nI q := by rw [Y1.2.2.2.1, B4]; exact eq
  have hr1 : xa_running u1 = nI g := H1.2.2.1
  have dg1 := H1.2.2.2.2.2.2.2.1
  have dgY1 := H1.2.2.2.2.2.2.2.2.1
  have F2e : xa_fill u2 e = nI f := by rw [F2]; exact F1
  have G2e : ya_held v2 e = nI f := by rw [G2]; exact G1
  have hv2' := hv2
  rw [← first] at hv2'
  have pre : ∀ (P : Int32 → SX → Prop) (r0 : Int32), (∀ post : Int32 → Prop, post r0 → wpX_longestWaiting post u (-(nI (e + 1)))) → ((r0 = (-1) → P 0 u2) ∧ (¬ r0 = (-1) → (wpX_senderValue (fun r_380 => (wpX_addValue (fun u422 => (¬ (3 : Int32) = 0 ∧ (vp_in r0 36 ∧ (wpX_stopWaiting (fun u465 => (P 0 u465)) u422 (r0 / 3) ((xa_slotLine u422) r0.toNatClampNeg) 0)))) u2 (nI (e + 1)) r_380)) u2 r0))) → wpX_tryReceive P u (nI (4 * g + j)) (nI l) := by
    intro P r0 lx h
    rw [ux_tryReceive, cl]
    refine ⟨vl, xv_val ht ?_⟩
    rw [eb, nI_p, ce, hf]
    refine xi_yes ek h1 h2 (br_f (by decide) (lx _ ⟨ve, br_f (nI_nle (by omega) (by omega)) (xt_old (by omega) (by omega) hf ?_)⟩))
    rw [hu1, hr1]
    refine xs_rec hg j4 dg1 (by omega) ep1 p6 eq1 q6 ?_
    rw [hu2]
    exact h
  have yrc : ∀ (R : SY → Prop) (x4 z0 : Int32), ((x4 < 0 → cy_receive_155 R x4 z0 v2) ∧ (¬ x4 < 0 → vp_in z0 60 ∧ wpY_value (fun r_275 => cy_receive_155 R x4 z0 (ys_values (ys_held v2 (upd (ya_held v2) e (nI (f + 1)))) (upd (ya_values v2) (3 * e + f) r_275))) (ys_held v2 (upd (ya_held v2) e (nI (f + 1)))) x4 (ya_opB v2 z0.toNatClampNeg))) → cy_receive_25 R (nI g) (nI l) (nI (e + 1)) x4 z0 v :=
    fun R x4 z0 h => yr_25 hg j4 (by omega) (by omega) (by omega) hfY hv1 dgY1 epY1 p6 eqY1 q6 hv2' G2e h
  cases qq : bst u S (e + 1) 1 with
  | none =>
    have lx : ∀ post : Int32 → Prop, post (-1) → wpX_longestWaiting post u (-(nI (e + 1))) := fun post p => by
      rw [← wz]
      refine lo_x H.1 ?_
      rw [qq]; exact p
    have ly : ∀ post : Int32 → Prop, post (-1) → wpY_longest post v (nI (e + 1)) 1 := fun post p => lo_y H.1 Hr (by omega) (by omega) (Or.inr rfl) (by rw [qq]; exact p)
    refine Or.inr ⟨u2, v2, fun P p => pre P _ lx (br_t rfl p), ycr, fun R r => ?_, H2, X12.2.2.2.2.2.2.2.1, congrFun X12.2.2.2.2.2.2.2.2.1 _, congrFun Y12.2.2.2.2.1 _, X12.2.2.2.2.2.2.2.2.2.1⟩
    rw [uy_receive]
    refine ly _ (br_t (by decide) (yrc R _ _ (br_t (by decide) ?_)))
    rw [uy_receive_155, uy_receive_198]
    exact br_t (by decide) r
  | some b0 =>
    obtain ⟨i, l0, j0, i3, bS, br, ei, es, sl, l0n, l1n, lk, st, stY, j04, d1, d2, wl⟩ := lo_some H.1 Hr (by omega) (by omega) (Or.inr rfl) qq
    obtain ⟨L, L12, eL⟩ := que_len H.1.2.2.2.2.2.2.2.1 hS bS (fun z => absurd (stY.symm.trans z.1) (by decide))
    have lx : ∀ post : Int32 → Prop, post (nI (3 * b0 + i)) → wpX_longestWaiting post u (-(nI (e + 1))) := fun post p => by
      rw [← wz]
      refine lo_x H.1 ?_
      rw [es]; exact p
    have ly : ∀ post : Int32 → Prop, post (nI b0) → wpY_longest post v (nI (e + 1)) 1 := fun post p => lo_y H.1 Hr (by omega) (by omega) (Or.inr rfl) (by rw [qq]; exact p)
    have vs : vp_in (nI (3 * b0 + i)) 36 := vp_in_nI (by omega) (by decide)
    have cs : (nI (3 * b0 + i)).toNatClampNeg = 3 * b0 + i := nI_clamp (by omega)
    have dv : nI (3 * b0 + i) / 3 = nI b0 := by rw [nI_d3 (by omega)]; exact congrArg nI (by omega)
    have bg : ¬ b0 = g := fun z => br (by rw [z])
    obtain ⟨x, hx⟩ : ∃ x, rl_val (xa_variables u) (4 * b0 + j0) (xa_argB u l0) = x := ⟨_, rfl⟩
    have val2 : rl_val (xa_variables u2) (4 * b0 + j0) (xa_argB u2 l0) = x := by
      rw [V2, V1, X12.2.1, ← hx]
      exact rl_val_fr j04 (V_fr j4 p6 q6 b0 bg)
    have cp2 : xa_capacity u2 e = nI cp := by rw [X12.2.2.2.2.2.2.2.2.2.2.1]; exact hcp
    obtain ⟨u3, v3, hu3, hv3, H3, X3, Y3⟩ := tk_3 x H2 F2e cp2 f3 cp3
    have X13 := eq_x_t X12 X3
    have Y13 := eq_y_t Y12 Y3
    have st3 : xa_status u3 b0 = 2 := by rw [X13.2.2.2.2.1]; exact st
    have d13 : xa_depth u3 b0 = nI (j0 + 1) := by rw [X13.2.2.2.2.2.1]; exact d1
    have eL3 : xa_queueLength u3 = nI L := X13.2.2.2.2.2.2.1.trans eL
    have sl3 : xa_slotLine u3 (3 * b0 + i) = nI l0 := by rw [X13.2.2.2.1]; exact sl
    have sl2 : xa_slotLine u2 (3 * b0 + i) = nI l0 := by rw [X12.2.2.2.1]; exact sl
    have d12 : xa_depth u2 b0 = nI (j0 + 1) := by rw [X12.2.2.2.2.2.1]; exact d1
    have B18 : ya_vars v2 = xa_variables u2 := H2.1.1.2.2.2.2.2.2.2.2.2.2.2.2.2.2.2.2.2.2.1
    have B3' : ya_opB v2 = xa_argB u2 := H2.1.1.2.2.2.1
    have d22 : ya_depth (ys_held v2 (upd (ya_held v2) e (nI (f + 1)))) b0 = nI (j0 + 1) := by
      have : ya_depth v2 b0 = nI (j0 + 1) := by rw [Y12.1]; exact d2
      exact (this : yb_depth v2 b0 = nI (j0 + 1))
    have e18 : ya_vars (ys_held v2 (upd (ya_held v2) e (nI (f + 1)))) = xa_variables u2 := (B18 : yb_vars v2 = xa_variables u2)
    have H4 := mid_wk (f := l0) H3 bS br st3 d13 j04 eL3 L12 l1n
    have s4 : xb_state u3 = xa_state u := X13.2.2.2.2.2.2.2.1
    have m4 : xb_mode u3 (4 * g + j) = xa_mode u (4 * g + j) := congrFun X13.2.2.2.2.2.2.2.2.1 _
    have n4 : yb_panics v3 (4 * g + j) = ya_panics v (4 * g + j) := congrFun Y13.2.2.2.2.1 _
    have k4 : xb_kinds u3 = xa_kinds u := X13.2.2.2.2.2.2.2.2.2.1
    refine Or.inr ⟨xw_s u3 b0 (4 * b0 + j0) (nI (l0 + 1)) 0 L, yr_s (ys_resume v3 (upd (ya_resume v3) b0 (nI (l0 + 1)))) b0 L, fun P pp => pre P _ lx (br_f (ne_m1 (by omega)) (xsv_p (u := u2) (by omega) j04 i3 d12 sl2 (by omega) ?_)), ycr, fun R r => ?_, H4, s4, m4, n4, k4⟩
    · rw [val2, ux_addValue, nI_p, ce, F2e, ix3, nI_clamp (show 3 * e + f < 2 ^ 31 by omega), nI_1, dv, cs]
      refine ⟨ve, vp_in_nI (by omega) (by decide), nm_e ⟨ve, ve, nm_e ⟨by decide, vs, ?_⟩⟩⟩
      rw [hu3, sl3]
      exact xw_p (d := j0 + 1) (by omega) (by omega) (by omega) d13 eL3 L12 pp
    · rw [uy_receive]
      refine ly _ (br_f (nI_pos (by omega)) (wl _ (yrc R _ _ (br_f (nI_pos (by omega)) ⟨vp_in_nI (by omega) (by decide), ?_⟩))))
      rw [nI_clamp (show l0 < 2 ^ 31 by omega)]
      refine yv_val (by omega) j04 d22 ?_
      rw [e18, B3', val2, hv3, uy_receive_155, uy_receive_198]
      exact br_f (nI_pos (by omega)) (yw_p (by omega) (by omega) (Y13.2.2.2.2.2.trans (B17.trans eL)) L12 r)
theorem tr_all {W : Nat} {u : SX} {v : SY} {n S g j l : Nat} {b : Int32} (H : rl_mid W u v n S g (j + 1)) (hl : l < n) (kl : xa_kinds u l = 8 ∨ xa_kinds u l = 11) (eb : rl_val (xa_variables u) (4 * g + j) (xa_argB u l) = b) : tr_ok W u v n S g j l b := by
  have T := H.1.2.1
  have n60 := T.2.1.1
  obtain ⟨k, k8, ek, ch⟩ := id H.1.2.2.2.2.2.2.1
  have B11 : ya_made v = xa_channelCount u := H.1.1.2.2.2.2.2.2.2.2.2.2.2.1
  have ekY : ya_made v = nI k := B11.trans ek
  have ht := (mid_t H).1
  have vl : vp_in (nI l) 60 := vp_in_nI (by omega) (by decide)
  have cl : (nI l).toNatClampNeg = l := nI_clamp (by omega)
  have no : (b < 1 ∨ (¬ b < 1 ∧ nI k < b)) → tr_ok W u v n S g j l b := by
    intro c
    refine Or.inl ⟨fun P p => ?_, fun Q q => ?_⟩
    · rw [ux_tryReceive, cl]
      refine ⟨vl, xv_val ht ?_⟩
      rw [eb]
      exact xi_no ek c (br_t rfl p)
    · rw [uy_canReceive]; exact yi_no ekY c (br_t rfl q)
  rcases ch_c (a := b) k8 with c | c | ⟨e, ek', c, h1, h2⟩
  · exact no (Or.inl c)
  · exact no (Or.inr c)
  · subst c
    obtain ⟨f, cp, a1, a2, a3, a4, a5, a6⟩ := ch e ek'
    cases f with
    | zero => exact tr_0 H hl kl eb k8 ek ek' h1 h2 a3 a5
    | succ f => exact tr_1 H hl kl eb k8 ek ek' h1 h2 a3 a1 a2 a4 a6
