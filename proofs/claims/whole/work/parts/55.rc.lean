/-! receiving -/
def h_sh (h : Nat → Int32) (e f : Nat) : Nat → Int32 := fun i => if 3 * e ≤ i ∧ i < 3 * e + f then h (i + 1) else h i
theorem xh_xh {u : SX} {a b : Nat → Int32} : xs_held (xs_held u a) b = xs_held u b := Eq.trans (b := (xb_lineCount u, xb_functionCount u, xb_foundLine u, xb_state u, xb_time u, xb_endingPanic u, xb_outputCount u, xb_channelCount u, xb_goroutineCount u, xb_waitsBegun u, xb_running u, xb_queueLength u, xb_kinds u, xb_argA u, xb_argB u, xb_argC u, xb_blockOf u, xb_endOf u, xb_elseOf u, xb_functionLine u, xb_surelySet u, xb_outputs u, xb_capacity u, xb_fill u, xb_closed u, b, xb_status u, xb_depth u, xb_waitOrder u, xb_waitUntil u, xb_queue u, xb_slotWish u, xb_slotLine u, xb_position u, xb_mode u, xb_panicOf u, xb_noteCount u, xb_noteFunction u, xb_noteValues u, xb_variables u)) rfl rfl
theorem xt_old {post : Int32 → SX → Prop} {u : SX} {e f : Nat} (e8 : e < 8) (f3 : f + 1 ≤ 3) (hf : xa_fill u e = nI (f + 1)) (h : post (xa_held u (3 * e)) (xs_held (xs_fill u (upd (xa_fill u) e (nI f))) (h_sh (xa_held u) e f))) : wpX_takeOldest post u (nI (e + 1)) := by
  have ve : vp_in (nI e) 8 := vp_in_nI e8 (by decide)
  have ce : (nI e).toNatClampNeg = e := nI_clamp (by omega)
  have e3 : nI e * 3 = nI (3 * e) := by
    rw [show (3 : Int32) = nI 3 from rfl, pk_mul]; exact congrArg nI (by omega)
  have key : ∀ d c q, c + d = f → (∀ i, 3 * e ≤ i → i < 3 * e + c → q i = xa_held u (i + 1)) → (∀ i, ¬ (3 * e ≤ i ∧ i < 3 * e + c) → q i = xa_held u i) → ∀ m, d < m → cx_takeOldest_28 post (nI (e + 1)) (nI (3 * e)) (xa_held u (3 * e)) m (nI c) (xs_held (xs_fill u (upd (xa_fill u) e (nI f))) q) := by
    intro d
    induction d with
    | zero =>
      intro c q hc h1 h2 m hm
      obtain ⟨m, rfl⟩ : ∃ q, m = q + 1 := ⟨m - 1, by omega⟩
      have : c = f := by omega
      subst this
      have eq : q = h_sh (xa_held u) e c := by
        funext i
        unfold h_sh
        by_cases z : 3 * e ≤ i ∧ i < 3 * e + c
        · rw [if_pos z]; exact h1 i z.1 z.2
        · rw [if_neg z]; exact h2 i z
      have fl : xa_fill (xs_held (xs_fill u (upd (xa_fill u) e (nI c))) q) e = nI c := (pk_us : upd (xa_fill u) e (nI c) e = nI c)
      rw [ux_takeOldest_28, nI_p, ce, fl, eq]
      exact ⟨ve, br_t (nI_le (Nat.le_refl _) (by omega)) h⟩
    | succ d ih =>
      intro c q hc h1 h2 m hm
      obtain ⟨m, rfl⟩ : ∃ q, m = q + 1 := ⟨m - 1, by omega⟩
      have fl : xa_fill (xs_held (xs_fill u (upd (xa_fill u) e (nI f))) q) e = nI f := (pk_us : upd (xa_fill u) e (nI f) e = nI f)
      rw [ux_takeOldest_28, nI_p, ce, fl, nI_add, nI_1, nI_clamp (show 3 * e + c < 2 ^ 31 by omega), nI_clamp (show 3 * e + c + 1 < 2 ^ 31 by omega)]
      refine ⟨ve, br_f (nI_ge (by omega) (by omega)) ⟨vp_in_nI (by omega) (by decide), vp_in_nI (by omega) (by decide), nm_r (show _ = upd q (3 * e + c) (q (3 * e + c + 1)) from rfl) (nm_r (nI_1 _) ?_)⟩⟩
      rw [xh_xh]
      refine ih (c + 1) _ (by omega) (fun i a1 a2 => ?_) (fun i a => ?_) m (by omega)
      · by_cases z : i = 3 * e + c
        · subst z; rw [pk_us]; exact h2 _ (by omega)
        · rw [pk_un z]; exact h1 i a1 (by omega)
      · rw [pk_un (by omega)]; exact h2 i (by omega)
  rw [ux_takeOldest, nI_p, ce, hf, nI_p, e3]
  have k0 := key f 0 (xa_held (xs_fill u (upd (xa_fill u) e (nI f)))) (by omega) (fun i a1 a2 => by omega) (fun i a => rfl) (f + 1) (by omega)
  refine nm_e ?_
  rw [nI_clamp (show 3 * e < 2 ^ 31 by omega)]
  exact ⟨vp_in_nI (by omega) (by decide), nm_e ⟨ve, ve, nm_e ⟨f + 1, k0⟩⟩⟩
theorem mid_v2 {W : Nat} {u : SX} {v : SY} {n S g j p q : Nat} {x y : Int32} (H : rl_mid W u v n S g (j + 1)) (p6 : p < 6) (q6 : q < 6) : rl_mid W (xs_variables u (upd (upd (xa_variables u) (6 * (4 * g + j) + p) x) (6 * (4 * g + j) + q) y)) (ys_vars v (upd (upd (ya_vars v) (6 * (4 * g + j) + p) x) (6 * (4 * g + j) + q) y)) n S g (j + 1) := by
  have key : rl_mid W (xs_variables (xs_variables u (upd (xa_variables u) (6 * (4 * g + j) + p) x)) (upd (upd (xa_variables u) (6 * (4 * g + j) + p) x) (6 * (4 * g + j) + q) y)) (ys_vars (ys_vars v (upd (ya_vars v) (6 * (4 * g + j) + p) x)) (upd (upd (ya_vars v) (6 * (4 * g + j) + p) x) (6 * (4 * g + j) + q) y)) n S g (j + 1) := mid_var (mid_var H p6) q6
  rw [xv_xv, yv_yv] at key
  exact key
theorem xsv_p {post : Int32 → Prop} {u : SX} {b j i l : Nat} (hb : b < 12) (j4 : j < 4) (i3 : i < 3) (hd : xa_depth u b = nI (j + 1)) (sl : xa_slotLine u (3 * b + i) = nI l) (l60 : l < 60) (h : post (rl_val (xa_variables u) (4 * b + j) (xa_argB u l))) : wpX_senderValue post u (nI (3 * b + i)) := by
  have dv : nI (3 * b + i) / 3 = nI b := by rw [nI_d3 (by omega)]; exact congrArg nI (by omega)
  rw [ux_senderValue, dv]
  refine ⟨by decide, xg_topOf (d := j + 1) hb (by omega) hd ?_⟩
  rw [show 4 * b + (j + 1) - 1 = 4 * b + j from rfl, nI_clamp (show 3 * b + i < 2 ^ 31 by omega), sl, nI_clamp (show l < 2 ^ 31 by omega)]
  exact ⟨vp_in_nI (by omega) (by decide), vp_in_nI l60 (by decide), xv_val (by omega) h⟩
theorem iy32 {e : Nat} : (3 * nI (e + 1)) - 3 = nI (3 * e) ∧ (3 * nI (e + 1)) - 2 = nI (3 * e + 1) ∧ (3 * nI (e + 1)) - 1 = nI (3 * e + 2) := by
  rw [show (3 : Int32) = nI 3 from rfl, pk_mul]
  refine ⟨?_, ?_, ?_⟩
  · rw [pk_sub (by omega)]; exact congrArg nI (by omega)
  · show nI (3 * (e + 1)) - nI 2 = _
    rw [pk_sub (by omega)]; exact congrArg nI (by omega)
  · show nI (3 * (e + 1)) - nI 1 = _
    rw [pk_sub (by omega)]; exact congrArg nI (by omega)
def tr_ok (W : Nat) (u : SX) (v : SY) (n S g j l : Nat) (b : Int32) : Prop :=
    ((∀ P : Int32 → SX → Prop, P 1 u → wpX_tryReceive P u (nI (4 * g + j)) (nI l)) ∧ (∀ Q : Int32 → Prop, Q 0 → wpY_canReceive Q v b)) ∨
    (∃ u' v', (∀ P : Int32 → SX → Prop, P 0 u' → wpX_tryReceive P u (nI (4 * g + j)) (nI l)) ∧ (∀ Q : Int32 → Prop, Q 1 → wpY_canReceive Q v b) ∧ (∀ R : SY → Prop, R v' → wpY_receive R v (nI g) (nI l) b) ∧ sr_ok W u u' v v' n S g j)
theorem tr_0 {W : Nat} {u : SX} {v : SY} {n S g j l e k : Nat} (H : rl_mid W u v n S g (j + 1)) (hl : l < n) (kl : xa_kinds u l = 8 ∨ xa_kinds u l = 11) (eb : rl_val (xa_variables u) (4 * g + j) (xa_argB u l) = nI (e + 1)) (k8 : k ≤ 8) (ek : xa_channelCount u = nI k) (ek' : e < k) (h1 : ¬ nI (e + 1) < 1) (h2 : ¬ nI k < nI (e + 1)) (hf : xa_fill u e = nI 0) (a5 : xa_closed u e = 0 ∨ xa_closed u e = 1) : tr_ok W u v n S g j l (nI (e + 1)) := by
  have T := H.1.2.1
  have n60 := T.2.1.1
  obtain ⟨L0, B1, B2, B3, B4, B5, B6, B7, B8, B9, B10, B11, B12, B13, B14, B15, B16, B17, B18, B19, B20, B21, B22⟩ := id H.1.1
  have ekY : ya_made v = nI k := B11.trans ek
  have ht := (mid_t H).1
  have hg := (mid_t H).2
  have j4 : j < 4 := by have := H.2.2.2.2.2.2.1; omega
  have Hr := mid_rn H
  have hS := H.1.2.2.1
  have hr := H.2.2.1
  have dg := H.2.2.2.2.2.2.2.1
  have dgY := H.2.2.2.2.2.2.2.2.1
  have vl : vp_in (nI l) 60 := vp_in_nI (by omega) (by decide)
  have cl : (nI l).toNatClampNeg = l := nI_clamp (by omega)
  have ve : vp_in (nI e) 8 := vp_in_nI (by omega) (by decide)
  have ce : (nI e).toNatClampNeg = e := nI_clamp (by omega)
  obtain ⟨p, q, p6, ep, q6, eq⟩ := ln_rc T hl kl
  have epY : ya_opA v l = nI p := by rw [B2]; exact ep
  have eqY : ya_opC v l = nI q := by rw [B4]; exact eq
  have wz : wsh (e + 1) 1 = -(nI (e + 1)) := if_neg (by decide)
  have hfY : ya_held v e = nI 0 := by rw [B13]; exact hf
  have pre : ∀ (P : Int32 → SX → Prop) (r0 : Int32), (∀ post : Int32 → Prop, post r0 → wpX_longestWaiting post u (-(nI (e + 1)))) → (((r0 = (-1) → (vp_in (nI e) 8 ∧ ((((xa_closed u) e) = 0 → (P 1 u)) ∧ (¬ ((xa_closed u) e) = 0 → (wpX_setReceived (fun u132 => (P 0 u132)) u (nI g) (nI l) 0 0))))) ∧ (¬ r0 = (-1) → (wpX_senderValue (fun r_172 => (wpX_setReceived (fun u214 => (¬ (3 : Int32) = 0 ∧ (vp_in r0 36 ∧ (wpX_stopWaiting (fun u257 => (P 0 u257)) u214 (r0 / 3) ((xa_slotLine u214) r0.toNatClampNeg) 0)))) u (nI g) (nI l) r_172 1)) u r0)))) → wpX_tryReceive P u (nI (4 * g + j)) (nI l) := by
    intro P r0 lx h
    rw [ux_tryReceive, cl]
    refine ⟨vl, xv_val ht ?_⟩
    rw [eb, hr, nI_p, ce, hf]
    exact xi_yes ek h1 h2 (br_f (by decide) (lx _ ⟨ve, br_t (by decide) h⟩))
  have ycr : ∀ Q : Int32 → Prop, wpY_canReceive Q v (nI (e + 1)) = wpY_channelAt (fun r_1 => (((r_1 = 0 → (Q 0)) ∧ (¬ r_1 = 0 → (vp_in (nI e) 8 ∧ (((((ya_closed v) e) = 0 → (vp_in (nI e) 8 ∧ (((0 < nI 0 → (Q 1)) ∧ (¬ 0 < nI 0 → (wpY_longest (fun r_48 => (((r_48 < 0 → (Q 0)) ∧ (¬ r_48 < 0 → (Q 1))))) v (nI (e + 1)) 1)))))) ∧ (¬ ((ya_closed v) e) = 0 → (Q 1))))))))) v (nI (e + 1)) := by
    intro Q
    rw [uy_canReceive, nI_p, ce, hfY]
  have yrc : ∀ (R : SY → Prop) (x4 z0 : Int32), (((x4 < 0 → (wpY_give (fun u48 => (cy_receive_198 R x4 z0 u48)) v (nI g) (nI l) 0 0)) ∧ (¬ x4 < 0 → (vp_in z0 60 ∧ (wpY_value (fun r_133 => (wpY_give (fun u176 => (cy_receive_198 R x4 z0 u176)) v (nI g) (nI l) r_133 1)) v x4 ((ya_opB v) z0.toNatClampNeg)))))) → cy_receive_25 R (nI g) (nI l) (nI (e + 1)) x4 z0 v := by
    intro R x4 z0 h
    rw [uy_receive_25, nI_p, ce, hfY]
    exact ⟨ve, br_t (by decide) h⟩
  cases qq : bst u S (e + 1) 1 with
  | none =>
    have lx : ∀ post : Int32 → Prop, post (-1) → wpX_longestWaiting post u (-(nI (e + 1))) := fun post p => by
      rw [← wz]
      refine lo_x H.1 ?_
      rw [qq]; exact p
    have ly : ∀ post : Int32 → Prop, post (-1) → wpY_longest post v (nI (e + 1)) 1 := fun post p => lo_y H.1 Hr (by omega) (by omega) (Or.inr rfl) (by rw [qq]; exact p)
    rcases a5 with c0 | c0
    · have c0Y : ya_closed v e = 0 := by rw [B14]; exact c0
      refine Or.inl ⟨fun P p => pre P _ lx (br_t rfl ⟨ve, br_t c0 p⟩), fun Q q => ?_⟩
      rw [ycr]
      exact yi_yes ekY h1 h2 (br_f (by decide) ⟨ve, br_t c0Y ⟨ve, br_f (by decide) (ly _ (br_t (by decide) q))⟩⟩)
    · have c0' : ¬ xa_closed u e = 0 := by rw [c0]; decide
      have c0Y : ¬ ya_closed v e = 0 := by rw [B14]; exact c0'
      refine Or.inr ⟨_, _, fun P p => pre P _ lx (br_t rfl ⟨ve, br_f c0' (xs_rec hg j4 dg (by omega) ep p6 eq q6 p)⟩), fun Q q => ?_, fun R r => ?_, mid_v2 (x := 0) (y := 0) H p6 q6, rfl, rfl, rfl, rfl⟩
      · rw [ycr]
        exact yi_yes ekY h1 h2 (br_f (by decide) ⟨ve, br_f c0Y q⟩)
      · rw [uy_receive]
        refine ly _ (br_t (by decide) ?_)
        refine yrc R _ _ (br_t (by decide) (yg_give hg j4 dgY (by omega) epY p6 eqY q6 ?_))
        rw [uy_receive_198]
        exact br_t (by decide) r
  | some b0 =>
    obtain ⟨i, l0, j0, i3, bS, br, ei, es, sl, l0n, l1n, lk, st, stY, j04, d1, d2, wl⟩ := lo_some H.1 Hr (by omega) (by omega) (Or.inr rfl) qq
    obtain ⟨L, L12, eL⟩ := que_len H.1.2.2.2.2.2.2.2.1 hS bS (fun z => absurd (stY.symm.trans z.1) (by decide))
    have lx : ∀ post : Int32 → Prop, post (nI (3 * b0 + i)) → wpX_longestWaiting post u (-(nI (e + 1))) := fun post p => by
      rw [← wz]
      refine lo_x H.1 ?_
      rw [es]; exact p
    have ly : ∀ post : Int32 → Prop, post (nI b0) → wpY_longest post v (nI (e + 1)) 1 := fun post p => lo_y H.1 Hr (by omega) (by omega) (Or.inr rfl) (by rw [qq]; exact p)
    have vs : vp_in (nI (3 * b0 + i)) 36 := vp_in_nI (by omega) (by decide)
    have cs : (nI (3 * b0 + i)).toNatClampNeg = 3 * b0 + i := nI_clamp (by omega)
    have dv : nI (3 * b0 + i) / 3 = nI b0 := by rw [nI_d3 (by omega)]; exact congrArg nI (by omega)
    have HM := mid_wk (f := l0) (mid_v2 (x := rl_val (xa_variables u) (4 * b0 + j0) (xa_argB u l0)) (y := 1) H p6 q6) bS br st d1 j04 eL L12 l1n
    refine Or.inr ⟨_, _, fun P pp => pre P _ lx (br_f (ne_m1 (by omega)) (xsv_p (by omega) j04 i3 d1 sl (by omega) (xs_rec hg j4 dg (by omega) ep p6 eq q6 ⟨by decide, vs, ?_⟩))), fun Q q => ?_, fun R r => ?_, HM, rfl, rfl, rfl, rfl⟩
    · rw [dv, cs]
      have sl' : xa_slotLine (xs_variables u (upd (upd (xa_variables u) (6 * (4 * g + j) + p) (rl_val (xa_variables u) (4 * b0 + j0) (xa_argB u l0))) (6 * (4 * g + j) + q) 1)) (3 * b0 + i) = nI l0 := sl
      rw [sl']
      exact xw_p (u := xs_variables u (upd (upd (xa_variables u) (6 * (4 * g + j) + p) (rl_val (xa_variables u) (4 * b0 + j0) (xa_argB u l0))) (6 * (4 * g + j) + q) 1)) (d := j0 + 1) (by omega) (by omega) (by omega) d1 eL L12 pp
    · rw [ycr]
      rcases a5 with c0 | c0
      · have c0Y : ya_closed v e = 0 := by rw [B14]; exact c0
        exact yi_yes ekY h1 h2 (br_f (by decide) ⟨ve, br_t c0Y ⟨ve, br_f (by decide) (ly _ (br_f (nI_pos (by omega)) q))⟩⟩)
      · have c0Y : ¬ ya_closed v e = 0 := by rw [B14, c0]; decide
        exact yi_yes ekY h1 h2 (br_f (by decide) ⟨ve, br_f c0Y q⟩)
    · rw [uy_receive]
      refine ly _ (br_f (nI_pos (by omega)) (wl _ ?_))
      refine yrc R _ _ (br_f (nI_pos (by omega)) ⟨vp_in_nI (by omega) (by decide), yv_val (by omega) j04 d2 ?_⟩)
      rw [nI_clamp (show l0 < 2 ^ 31 by omega), B3]
      refine yg_give hg j4 dgY (by omega) epY p6 eqY q6 ?_
      rw [B18, uy_receive_198]
      rw [B18] at r
      exact br_f (nI_pos (by omega)) (yw_p (v := ys_vars v (upd (upd (xa_variables u) (6 * (4 * g + j) + p) (rl_val (xa_variables u) (4 * b0 + j0) (xa_argB u l0))) (6 * (4 * g + j) + q) 1)) (by omega) (by omega) (B17.trans eL) L12 r)
