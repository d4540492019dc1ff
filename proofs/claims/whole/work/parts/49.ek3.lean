/-! MAKE, CALL, GO, SLEEP -/
theorem mid_make {W : Nat} {u : SX} {v : SY} {n S g d c b : Nat} (H : rl_mid W u v n S g d) (ec : xa_channelCount u = nI c) (c8 : c < 8) (b4 : b < 4) : rl_mid W (xs_closed (xs_fill (xs_capacity (xs_channelCount u (nI (c + 1))) (upd (xa_capacity u) c (nI b))) (upd (xa_fill u) c 0)) (upd (xa_closed u) c 0)) (ys_closed (ys_held (ys_capacity (ys_made v (nI (c + 1))) (upd (ya_capacity v) c (nI b))) (upd (ya_held v) c 0)) (upd (ya_closed v) c 0)) n S g d := by
  obtain ⟨m1, m2, m3, m4, m5, m6, m7, m8, m9, m10, m11⟩ := me_b H.2.2.2.2.2
  obtain ⟨L0, B1, B2, B3, B4, B5, B6, B7, B8, B9, B10, B11, B12, B13, B14, B15, B16, B17, B18, B19, B20, B21, B22⟩ := bs_b H.1.1
  obtain ⟨c', h8, e8, ch⟩ := H.1.2.2.2.2.2.2.1
  have cc : c' = c := (nI_eq (by omega) (by omega)).mp (e8.symm.trans ec)
  subst cc
  refine mid_loc H ⟨⟨rfl, rfl, rfl, rfl, rfl, rfl, rfl, rfl, rfl, rfl⟩, rfl, rfl, rfl, rfl, rfl, rfl, fun g1 h1 => ⟨rfl, rfl, rfl, fr_er, fr_er, fr_er, fr_er, fr_er, fr_er, fr_er, fr_er⟩⟩ ⟨rfl, rfl, rfl, fun g1 h1 => ⟨rfl, rfl, rfl, rfl, rfl, rfl, fr_er, fr_er, fr_er, fr_er, fr_er⟩⟩ ⟨L0, B1, B2, B3, B4, B5, B6, B7, B8, B9, B10, rfl, (show upd (yb_capacity v) c' (nI b) = upd (xb_capacity u) c' (nI b) by rw [B12]), (show upd (yb_held v) c' 0 = upd (xb_fill u) c' 0 by rw [B13]), (show upd (yb_closed v) c' 0 = upd (xb_closed u) c' 0 by rw [B14]), B15, B16, B17, B18, B19, B20, B21, B22⟩ ⟨c' + 1, by omega, rfl, fun i hi => ?_⟩ ⟨m1, m2, m3, m4, (rl_low_fr rfl m2 fr_er fr_er fr_er fr_er fr_er m5), (rl_nts_fr rfl m2 fr_er fr_er fr_er fr_er fr_er m6), m7, m8, m9, m10, (rl_nw_fr rfl fr_er m11)⟩
  by_cases e : i = c'
  · subst e
    exact ⟨0, b, by omega, by omega, (pk_us : upd (xa_fill u) i 0 i = 0), (pk_us : upd (xa_capacity u) i (nI b) i = nI b), Or.inl (pk_us : upd (xa_closed u) i 0 i = 0), fun q hq => by omega⟩
  · obtain ⟨f, q, a1, a2, a3, a4, a5, a6⟩ := ch i (by omega)
    refine ⟨f, q, a1, a2, (pk_un e : upd (xa_fill u) c' 0 i = _).trans a3, (pk_un e : upd (xa_capacity u) c' (nI b) i = _).trans a4, ?_, (a6 : ∀ j, j < f → xb_held u (3 * i + j) = yb_values v (3 * i + j))⟩
    have : xa_closed (xs_closed (xs_fill (xs_capacity (xs_channelCount u (nI (c' + 1))) (upd (xa_capacity u) c' (nI b))) (upd (xa_fill u) c' 0)) (upd (xa_closed u) c' 0)) i = xa_closed u i := (pk_un e : upd (xa_closed u) c' 0 i = _)
    rw [this]; exact a5
theorem ek_13 {W : Nat} {u : SX} {v : SY} {n S g j i : Nat} (E : ex_at W u v n S g j i) (k : xa_kinds u i = 13) : ex_x W u v g i := by
  obtain ⟨hg, j4, hr, d1, d2, i60, T, TY⟩ := at_f E
  obtain ⟨B1, B2, ea, eb, ec⟩ := at_e E
  obtain ⟨_, _, _, hp, hx, hy, hi⟩ := id E
  obtain ⟨w, hw, Hw, s, hm, pw, wk, wA, wB, wC, wv⟩ := at_g E
  have kY : ya_kind v i = 13 := by rw [B1]; exact k
  have kw : xa_kinds w i = 13 := by rw [wk]; exact k
  have nx := st_nx T.2.1 hi (by rw [k]; decide)
  have ht := (mid_t Hw).1
  have B11 : ya_made v = xa_channelCount w := Hw.1.1.2.2.2.2.2.2.2.2.2.2.2.1
  have B3 : ya_opB v = xa_argB w := Hw.1.1.2.2.2.1
  obtain ⟨p, p6, ep, epY⟩ := at_p E (by rw [k]; decide)
  have epw : xa_argA w i = nI p := by rw [wA]; exact ep
  obtain ⟨b, b4, ebb⟩ := (Hw.1.2.1.2.2.2.2.2.1 i hi).2.2.2.2.1 kw
  have ebY : ya_opB v i = nI b := by rw [B3]; exact ebb
  obtain ⟨c, c8, cc, _⟩ := id Hw.1.2.2.2.2.2.2.1
  have ci : (nI i).toNatClampNeg = i := nI_clamp (by omega)
  have vi : vp_in (nI i) 60 := vp_in_nI i60 (by decide)
  by_cases e8 : c = 8
  · subst e8
    refine ex_pa (x := -4) Hw s (fun P q => xx_13 hg j4 hr d1 hx i60 k ?_) (fun P q => yy_13 hg j4 d2 i60 kY (B11.trans cc) c8 ebY b4 epY p6 (fun _ => q) (fun z => by omega))
    rw [hw, ux_makeChannel, cc]
    exact br_f (by decide) q
  · have lt : c < 8 := by omega
    have HM := mid_make (b := b) Hw cc lt b4
    have vc : vp_in (nI c) 8 := vp_in_nI lt (by decide)
    have xp : ∀ P : SX → Prop, P (xs_variables (xs_closed (xs_fill (xs_capacity (xs_channelCount w (nI (c + 1))) (upd (xa_capacity w) c (nI b))) (upd (xa_fill w) c 0)) (upd (xa_closed w) c 0)) (upd (xa_variables w) (6 * (4 * g + j) + p) (nI (c + 1)))) → wpX_execute P u := by
      intro P q
      refine xx_13 hg j4 hr d1 hx i60 k ?_
      rw [hw, ux_makeChannel, cc, ci, epw, ebb, ix6, nI_clamp (show c < 2 ^ 31 by omega), nI_clamp (show 6 * (4 * g + j) + p < 2 ^ 31 by omega)]
      exact br_t (nI_lt (b := 8) lt (by decide)) ⟨vi, vc, nm_e ⟨vc, nm_e ⟨vc, nm_r (show _ = upd (xa_closed w) c 0 from rfl) (nm_r (nI_1 _) ⟨vi, vp_in_nI (by omega) (by decide), nm_e q⟩)⟩⟩⟩
    have yp : ∀ P : SY → Prop, wpY_goOn P (ys_vars (ys_closed (ys_held (ys_capacity (ys_made v (nI (c + 1))) (upd (ya_capacity v) c (nI b))) (upd (ya_held v) c 0)) (upd (ya_closed v) c 0)) (upd (ya_vars v) (6 * (4 * g + j) + p) (nI (c + 1)))) (nI g) (nI (i + 1)) → wpY_execute P v (nI g) (nI i) := fun P q => yy_13 hg j4 d2 i60 kY (B11.trans cc) c8 ebY b4 epY p6 (fun z => absurd z e8) (fun _ => q)
    have f1 : xa_variables (xs_closed (xs_fill (xs_capacity (xs_channelCount w (nI (c + 1))) (upd (xa_capacity w) c (nI b))) (upd (xa_fill w) c 0)) (upd (xa_closed w) c 0)) = xa_variables w := (rfl : xb_variables w = xb_variables w)
    have f2 : ya_vars (ys_closed (ys_held (ys_capacity (ys_made v (nI (c + 1))) (upd (ya_capacity v) c (nI b))) (upd (ya_held v) c 0)) (upd (ya_closed v) c 0)) = ya_vars v := (rfl : yb_vars v = yb_vars v)
    have s1 : xa_state (xs_closed (xs_fill (xs_capacity (xs_channelCount w (nI (c + 1))) (upd (xa_capacity w) c (nI b))) (upd (xa_fill w) c 0)) (upd (xa_closed w) c 0)) = 1 := (s : xb_state w = 1)
    have s2 : xa_mode (xs_closed (xs_fill (xs_capacity (xs_channelCount w (nI (c + 1))) (upd (xa_capacity w) c (nI b))) (upd (xa_fill w) c 0)) (upd (xa_closed w) c 0)) (4 * g + j) = 0 := (hm : xb_mode w (4 * g + j) = 0)
    have s3 : xa_position (xs_closed (xs_fill (xs_capacity (xs_channelCount w (nI (c + 1))) (upd (xa_capacity w) c (nI b))) (upd (xa_fill w) c 0)) (upd (xa_closed w) c 0)) (4 * g + j) = nI (i + 1) := (pw : xb_position w (4 * g + j) = nI (i + 1))
    have s4 : ya_panics (ys_closed (ys_held (ys_capacity (ys_made v (nI (c + 1))) (upd (ya_capacity v) c (nI b))) (upd (ya_held v) c 0)) (upd (ya_closed v) c 0)) (4 * g + j) = 0 := (hp : yb_panics v (4 * g + j) = 0)
    rw [← f1] at xp
    rw [← f2] at yp
    exact ex_var (x := nI (c + 1)) HM s1 s2 s4 s3 nx p6 xp yp
theorem fn_line {u : SX} {n i : Nat} (T : sx_st u n) (hi : i < n) (go : ln_go (xa_kinds u i)) : ∃ f q p, f < 30 ∧ xa_argA u i = nI f ∧ f < st_f (xa_kinds u) n ∧ q < n ∧ xa_kinds u q = 0 ∧ st_f (xa_kinds u) q = f ∧ xa_functionLine u f = nI q ∧ xa_argA u q = nI p ∧ p < 3 := by
  obtain ⟨f, f30, ef⟩ := (T.2.2.2.2.2.1 i hi).2.2.2.2.2 go
  have ff := T.2.2.2.2.2.2 i hi go
  have A := T.2.2.2.2.1
  have b := A.2.2.2.2.2
  have n60 := T.2.1.1
  rw [if_pos T.2.1.2.1] at b
  rw [ef, A.2.2.2.2.1] at ff
  have hf := (nI_ltI (by omega) (by omega)).mp ff
  obtain ⟨q, q1, q2, q3⟩ := st_fl_ex n hf
  obtain ⟨p, p3, ep⟩ := (T.2.2.2.2.2.1 q q1).2.1 q2
  have fl := A.2.2.2.1 q q1 q2
  rw [q3] at fl
  exact ⟨f, q, p, f30, ef, hf, q1, q2, q3, fl, ep, p3⟩
theorem yea {v : SY} {g d j p : Nat} {x y : Int32} : ys_asNote (ye_s v g d j p x y) (upd (ya_asNote v) (4 * g + d) 0) = ye_s v g d j p x y := Eq.trans (b := (yb_lines v, yb_bad v, yb_state v, yb_queued v, yb_started v, yb_now v, yb_clock v, yb_turn v, yb_off v, yb_made v, yb_printed v, yb_panicValue v, yb_kind v, yb_opA v, yb_opB v, yb_opC v, yb_open v, yb_seen v, yb_unset v, yb_status v, upd (ya_depth v) g (nI (d + 1)), yb_since v, yb_resume v, yb_shocked v, yb_queue v, yb_until v, yb_channels v, upd (ya_pc v) (4 * g + d) (nI j), rl_ev (ya_vars v) (4 * g + d) p x y, upd (ya_noted v) (4 * g + d) 0, yb_noteOf v, yb_noteB v, yb_noteC v, upd (ya_asNote v) (4 * g + d) 0, upd (ya_panics v) (4 * g + d) 0, yb_panicWith v, yb_capacity v, yb_held v, yb_closed v, yb_values v, yb_out v)) rfl rfl
theorem ek_15 {W : Nat} {u : SX} {v : SY} {n S g j i : Nat} (E : ex_at W u v n S g j i) (k : xa_kinds u i = 15) : ex_x W u v g i := by
  obtain ⟨hg, j4, hr, d1, d2, i60, T, TY⟩ := at_f E
  obtain ⟨B1, B2, ea, eb, ec⟩ := at_e E
  obtain ⟨_, _, _, hp, hx, hy, hi⟩ := id E
  obtain ⟨w, hw, Hw, s, hm, pw, wk, wA, wB, wC, wv⟩ := at_g E
  have kY : ya_kind v i = 15 := by rw [B1]; exact k
  have kw : xa_kinds w i = 15 := by rw [wk]; exact k
  have ht := (mid_t Hw).1
  obtain ⟨f, q, p, f30, ef, hf, q1, q2, q3, fl, ep, p3⟩ := fn_line Hw.1.2.1 hi (by rw [kw]; decide)
  have efu : xa_argA u i = nI f := by rw [← wA]; exact ef
  have n60 := T.2.1.1
  have B1w : ya_kind v = xa_kinds w := by rw [B1, wk]
  have B2w : ya_opA v = xa_argA w := by rw [B2, wA]
  have cg : (nI g).toNatClampNeg = g := nI_clamp (by omega)
  have vg : vp_in (nI g) 12 := vp_in_nI hg (by decide)
  have hrw : xa_running w = nI g := Hw.2.2.1
  have hdw : xa_depth w g = nI (j + 1) := Hw.2.2.2.2.2.2.2.1
  by_cases jj : j + 1 = 4
  · obtain ⟨C0, C1, C2, C3, C4, C5, C6, C7, C8, C9, C10, C11, C12, C13, C14, C15, C16, C17, C18, C19, C20, C21, C22⟩ := bs_b Hw.1.1
    refine ⟨0, xs_state w 5, xs_state w 5, ys_state v 5, by omega, fun P q => xx_15 hg j4 hr d1 hx i60 k ?_, mv_0, fun P q => yy_15 hg j4 d2 i60 kY (ye_over hg (by rw [d2, jj]) q), Or.inr (Or.inr ⟨⟨C0, C1, C2, C3, C4, C5, rfl, C7, C8, C9, C10, C11, C12, C13, C14, C15, C16, C17, C18, C19, C20, C21, C22⟩, ?_, by show ¬ (5 : Int32) = 1; decide⟩)⟩
    · rw [hw, ux_call, hrw, cg, hdw, jj]
      exact ⟨vg, br_f (by decide) q⟩
    · refine ob_mid Hw rfl rfl (fun g1 h1 => ⟨rfl, rfl, rfl, fr_er, fr_er, fr_er, fr_er, fr_er, fr_er, fr_er, fr_er⟩) (fun g1 h1 => ⟨rfl, rfl, rfl, rfl, rfl, rfl, fr_er, fr_er, fr_er, fr_er, fr_er⟩) (og_fr ⟨rfl, rfl, rfl, fr_er, fr_er, fr_er, fr_er, fr_er, fr_er, fr_er, fr_er⟩ ⟨rfl, rfl, rfl, rfl, rfl, rfl, fr_er, fr_er, fr_er, fr_er, fr_er⟩ (og_me Hw.2.2.2.2.2 ?_))
      show xa_mode w (4 * g + j) = 2 ↔ ¬ ya_panics v (4 * g + j) = 0
      rw [hm, hp]; decide
  · have hj : j + 1 < 4 := by omega
    have key := mid_push (q := q) (p := p) (x := rl_val (xa_variables u) (4 * g + j) (xa_argB u i)) (y := rl_val (xa_variables u) (4 * g + j) (xa_argC u i)) (A := upd (ya_asNote v) (4 * g + (j + 1)) 0) Hw hj (pk_us : upd (ya_asNote v) (4 * g + (j + 1)) 0 (4 * g + j + 1) = 0) (fun i hi => pk_un hi) (Or.inl ⟨rfl, hm, hp, i, hi, kw, hy, pw⟩)
    rw [yea] at key
    refine ⟨0, xs_variables (xe_w w g (j + 1) q) (rl_ev (xa_variables w) (4 * g + (j + 1)) p (rl_val (xa_variables u) (4 * g + j) (xa_argB u i)) (rl_val (xa_variables u) (4 * g + j) (xa_argC u i))), xs_variables (xe_w w g (j + 1) q) (rl_ev (xa_variables w) (4 * g + (j + 1)) p (rl_val (xa_variables u) (4 * g + j) (xa_argB u i)) (rl_val (xa_variables u) (4 * g + j) (xa_argC u i))), ye_s v g (j + 1) q p (rl_val (xa_variables u) (4 * g + j) (xa_argB u i)) (rl_val (xa_variables u) (4 * g + j) (xa_argC u i)), by omega, fun P qq => xx_15 hg j4 hr d1 hx i60 k ?_, mv_0, fun P qq => yy_15 hg j4 d2 i60 kY ?_, Or.inl ⟨⟨n, S, g, j + 2, q, key, ?_, ?_, q1, ?_, ?_, ?_⟩, (s : xb_state w = 1)⟩⟩
    · rw [hw, ux_call, hrw, cg, hdw, efu]
      exact ⟨vg, br_t (nI_lt (b := 4) hj (by decide)) (xe_enter hg hj hdw f30 fl (by omega) ep p3 qq)⟩
    · rw [eb, ec, B2w, ef]
      refine ye_enter TY hg hj d2 (by rw [B1w]; exact hf) (fun q' p' a1 a2 a3 a4 a5 => ?_)
      rw [B1w] at a2 a3
      rw [B2w] at a4
      have e1 : q' = q := (st_fl_eq a2 a3 n a1).symm.trans (st_fl_eq q2 q3 n q1)
      subst e1
      rw [ep] at a4
      have e2 : p = p' := (nI_eq (by omega) (by omega)).mp a4
      subst e2
      exact qq
    · exact (pk_us : upd (xa_mode w) (4 * g + (j + 1)) 0 (4 * g + (j + 1)) = 0)
    · exact (pk_us : upd (ya_panics v) (4 * g + (j + 1)) 0 (4 * g + (j + 1)) = 0)
    · exact (pk_us : upd (xa_position w) (4 * g + (j + 1)) (nI q) (4 * g + (j + 1)) = nI q)
    · exact (pk_us : upd (ya_pc v) (4 * g + (j + 1)) (nI q) (4 * g + (j + 1)) = nI q)
    · show ¬ st_mk (xb_kinds w q)
      rw [show xb_kinds w q = 0 from q2]; decide
theorem ex_of {W : Nat} {u' : SX} {v' : SY} {A : (SX → Prop) → Prop} {B : (SY → Prop) → Prop} (H : rl_off W u' v') (hA : ∀ P : SX → Prop, P u' → A P) (hB : ∀ P : SY → Prop, P v' → B P) : ex_r W A B :=
  ⟨0, u', u', v', by omega, hA, mv_0, hB, Or.inr (Or.inl ⟨H, by have := ct_le (f := ya_status v') 12; omega⟩)⟩
/-! a goroutine begins to wait -/
def xb_s (u : SX) (g t i : Nat) (un : Int64) (wb : Nat) : SX := xs_position (xs_waitUntil (xs_waitOrder (xs_status (xs_running (xs_waitsBegun u (nI (wb + 1))) (-1)) (upd (xa_status u) g 2)) (upd (xa_waitOrder u) g (nI wb))) (vp_updL (xa_waitUntil u) g un)) (upd (xa_position u) t (nI i))
theorem xb_p {post : SX → Prop} {u : SX} {g t i wb : Nat} {un : Int64} (hg : g < 12) (ht : t < 48) (hr : xa_running u = nI g) (hw : xa_waitsBegun u = nI wb) (h : post (xb_s u g t i un wb)) : wpX_beginWait post u (nI t) (nI i) un := by
  have vg : vp_in (nI g) 12 := vp_in_nI hg (by decide)
  rw [ux_beginWait, hr, hw, nI_clamp (show g < 2 ^ 31 by omega), nI_clamp (show t < 2 ^ 31 by omega), nI_1]
  exact ⟨vp_in_nI ht (by decide), nm_e ⟨vg, nm_e ⟨vg, nm_e ⟨vg, nm_e (nm_e h)⟩⟩⟩⟩
def yp_s (v : SY) (g : Nat) (un : Int64) (wb c : Nat) : SY := ys_channels (ys_until (ys_since (ys_status (ys_off (ys_turn v (nI (wb + 1))) 1) (upd (ya_status v) g 2)) (upd (ya_since v) g (nI wb))) (vp_updL (ya_until v) g un)) (upd (ya_channels v) g (nI c))
theorem yp_p {post : SY → Prop} {v : SY} {g wb c : Nat} {un : Int64} (hg : g < 12) (hw : ya_turn v = nI wb) (hc : ya_made v = nI c) (c8 : c ≤ 8) (h : post (yp_s v g un wb c)) : wpY_pause post v (nI g) un := by
  have vg : vp_in (nI g) 12 := vp_in_nI hg (by decide)
  rw [uy_pause, hw, hc, nI_clamp (show g < 2 ^ 31 by omega), nI_1, nb_64 c (by omega)]
  exact ⟨vg, nm_r (show _ = upd (ya_status v) g 2 from rfl) (nm_e ⟨vg, nm_e ⟨vg, nm_e ⟨vg, nm_e h⟩⟩⟩)⟩
/-- X's slots, told by the arrays -/
def sl_P (K A B vars : Nat → Int32) (n g t w : Nat) (m : Int32) (SW SL : Nat → Int32) : Prop :=
  (K w = 28 → ∀ i, i < 3 → SW (3 * g + i) = 0) ∧
  (K w = 10 ∨ K w = 11 → SW (3 * g) = rl_wish K A B vars t m w ∧ SL (3 * g) = nI w ∧ SW (3 * g + 1) = 0 ∧ SW (3 * g + 2) = 0) ∧
  (K w = 6 → (∀ j, j < n → (st_s K j).head? = some w → st_pc (K j) = true → SL (3 * g + st_n K st_pc w j) = nI j ∧ SW (3 * g + st_n K st_pc w j) = rl_wish K A B vars t m j) ∧
    ∀ i, st_n K st_pc w n ≤ i → i < 3 → SW (3 * g + i) = 0)
theorem wa_co {W : Nat} {u : SX} {v : SY} {n S g j i wb c : Nat} {un : Int64} {SW SL : Nat → Int32} (H : rl_mid W u v n S g (j + 1)) (s : xa_state u = 1) (hm : xa_mode u (4 * g + j) = 0) (hp : ya_panics v (4 * g + j) = 0) (hy : ya_pc v (4 * g + j) = nI i) (hi : i < n) (ki : xa_kinds u i = 6 ∨ xa_kinds u i = 10 ∨ xa_kinds u i = 11 ∨ xa_kinds u i = 28)
    (hw : xa_waitsBegun u = nI wb) (wW : wb ≤ W) (hc : xa_channelCount u = nI c) (c8 : c ≤ 8) (fw : ∀ g', ¬ g' = g → fr_e 3 g' (xa_slotWish u) SW) (fl : ∀ g', ¬ g' = g → fr_e 3 g' (xa_slotLine u) SL) (sl : sl_P (xa_kinds u) (xa_argA u) (xa_argB u) (xa_variables u) n g (4 * g + j) i (nI c) SW SL)
    (hun : (un = -1 ∧ ¬ xa_kinds u i = 28) ∨ (∃ q, q ≤ (W + 1) * 2 ^ 31 ∧ un = lN q ∧ (xa_kinds u i = 28 ∨ (xa_kinds u i = 6 ∧ ∃ l, l < n ∧ (st_s (xa_kinds u) l).head? = some i ∧ xa_kinds u l = 29)))) :
    rl_off (W + 1) (xb_s (xs_slotLine (xs_slotWish u SW) SL) g (4 * g + j) i un wb) (yp_s v g un wb c) := by
  obtain ⟨m1, m2, m3, m4, m5, m6, m7, m8, m9, m10, m11⟩ := me_b H.2.2.2.2.2
  obtain ⟨L0, B1, B2, B3, B4, B5, B6, B7, B8, B9, B10, B11, B12, B13, B14, B15, B16, B17, B18, B19, B20, B21, B22⟩ := bs_b H.1.1
  obtain ⟨w', s', t1, t2, t3, t4⟩ := id H.1.2.2.2.2.2.2.2.2.1
  have hm : xb_mode u (4 * g + j) = 0 := hm
  have hp : yb_panics v (4 * g + j) = 0 := hp
  have hy : yb_pc v (4 * g + j) = nI i := hy
  have t4 : xb_time u = lN s' := t4
  have s : xb_state u = 1 := s
  refine ⟨n, S, co_off H (Nat.le_succ W) ⟨rfl, rfl, rfl, rfl, rfl, rfl, rfl, rfl, rfl, rfl⟩ (fun g1 h1 => ⟨(pk_un h1 : (upd (xa_status u) g 2) g1 = xa_status u g1), rfl, (pk_uLn h1 : (vp_updL (xa_waitUntil u) g un) g1 = xa_waitUntil u g1), (fw g1 h1 : fr_e 3 g1 (xa_slotWish u) (SW)), (fl g1 h1 : fr_e 3 g1 (xa_slotLine u) (SL)), (fr_e4 h1 (by omega) : fr_e 4 g1 (xa_position u) (upd (xa_position u) (4 * g + j) (nI i))), fr_er, fr_er, fr_er, fr_er, fr_er⟩) (fun g1 h1 => ⟨(pk_un h1 : (upd (ya_status v) g 2) g1 = ya_status v g1), rfl, rfl, rfl, (pk_uLn h1 : (vp_updL (ya_until v) g un) g1 = ya_until v g1), (pk_un h1 : (upd (ya_channels v) g (nI c)) g1 = ya_channels v g1), fr_er, fr_er, fr_er, fr_er, fr_er⟩)
    ⟨L0, B1, B2, B3, B4, B5, B6, B7, B8, B9, B10, B11, B12, B13, B14, B15, rfl, B17, B18, B19, B20, B21, (show upd (yb_since v) g (nI wb) = upd (xb_waitOrder u) g (nI wb) by rw [B22])⟩ (chn_fr H.1.2.2.2.2.2.2.1 rfl rfl rfl rfl rfl rfl) rfl (que_off H.1.2.2.2.2.2.2.2.1 rfl rfl rfl (fun g1 h1 => (pk_un h1 : upd (ya_status v) g 2 g1 = ya_status v g1)) ?_) ⟨wb + 1, s', ?_, rfl, ?_, t4⟩ ⟨j + 1, m2, m3, m4, Or.inr ⟨m1, ?_, (rl_nts_fr rfl m2 fr_er fr_er fr_er fr_er fr_er m6), hm, hp, Or.inl ⟨(pk_us : upd (xa_status u) g 2 g = 2), (pk_us : upd (ya_status v) g 2 g = 2), m9, m10, i, hi, (ki : xb_kinds u i = 6 ∨ xb_kinds u i = 10 ∨ xb_kinds u i = 11 ∨ xb_kinds u i = 28), ?_, hy, ?_, ?_, ?_, c, c8, (pk_us : upd (ya_channels v) g (nI c) g = nI c)⟩⟩⟩, rfl, rfl, s⟩
  · show ¬ upd (ya_status v) g 2 g = 1
    rw [pk_us]; decide
  · exact Nat.succ_le_succ wW
  · have : W * 2 ^ 31 ≤ (W + 1) * 2 ^ 31 := Nat.mul_le_mul_right _ (Nat.le_succ W)
    exact Nat.le_trans t3 this
  · exact me_low rfl m5 (by omega) (fun q hq => (pk_un (by omega) : upd (xa_position u) (4 * g + j) (nI i) (4 * g + q) = xa_position u (4 * g + q))) (fun q hq => rfl) (fun q hq => rfl) (fun q hq => rfl) (fun q hq => rfl)
  · exact (pk_us : upd (xa_position u) (4 * g + j) (nI i) (4 * g + j) = nI i)
  · have e : ya_channels (yp_s v g un wb c) g = nI c := (pk_us : upd (ya_channels v) g (nI c) g = nI c)
    have f1 : xa_kinds (xb_s (xs_slotLine (xs_slotWish u SW) SL) g (4 * g + j) i un wb) = xb_kinds u := rfl
    have f2 : xa_argA (xb_s (xs_slotLine (xs_slotWish u SW) SL) g (4 * g + j) i un wb) = xb_argA u := rfl
    have f3 : xa_argB (xb_s (xs_slotLine (xs_slotWish u SW) SL) g (4 * g + j) i un wb) = xb_argB u := rfl
    have f4 : xa_variables (xb_s (xs_slotLine (xs_slotWish u SW) SL) g (4 * g + j) i un wb) = xb_variables u := rfl
    have f5 : xa_slotWish (xb_s (xs_slotLine (xs_slotWish u SW) SL) g (4 * g + j) i un wb) = SW := rfl
    have f6 : xa_slotLine (xb_s (xs_slotLine (xs_slotWish u SW) SL) g (4 * g + j) i un wb) = SL := rfl
    unfold rl_slo
    rw [e, f1, f2, f3, f4, f5, f6]
    exact sl
  · exact (pk_uLs : vp_updL (ya_until v) g un g = un).trans (pk_uLs : vp_updL (xa_waitUntil u) g un g = un).symm
  · have e : xa_waitUntil (xb_s (xs_slotLine (xs_slotWish u SW) SL) g (4 * g + j) i un wb) g = un := (pk_uLs : vp_updL (xa_waitUntil u) g un g = un)
    have f1 : xa_kinds (xb_s (xs_slotLine (xs_slotWish u SW) SL) g (4 * g + j) i un wb) = xb_kinds u := rfl
    rw [e, f1]
    exact hun
