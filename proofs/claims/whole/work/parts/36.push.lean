/-! a new activation of the running goroutine -/
theorem u_comm {f : Nat → Int32} {s t : Nat} {a b : Int32} (h : ¬ s = t) : upd (upd f s a) t b = upd (upd f t b) s a := by
  funext i
  by_cases e : i = t
  · subst e; rw [pk_us, pk_un (fun z => h z.symm), pk_us]
  · rw [pk_un e]
    by_cases e2 : i = s
    · subst e2; rw [pk_us, pk_us]
    · rw [pk_un e2, pk_un e2, pk_un e]
theorem fr_ev {g g' j p : Nat} {a : Nat → Int32} {x y : Int32} (h : ¬ g' = g) (hj : j < 4) : fr_e 24 g' a (rl_ev a (4 * g + j) p x y) := by
  intro i hi
  unfold rl_ev
  rw [if_neg (by omega)]
theorem ya_id {v : SY} : ys_asNote v (ya_asNote v) = v := rfl
theorem ys_dec {v : SY} {g d q p t : Nat} {x y z : Int32} (h : ¬ 4 * g + d = t) : ys_noted (ye_s v g d q p x y) (upd (ya_noted (ye_s v g d q p x y)) t z) = ye_s (ys_noted v (upd (ya_noted v) t z)) g d q p x y := by
  have e : ya_noted (ye_s v g d q p x y) = upd (ya_noted v) (4 * g + d) 0 := rfl
  rw [e, u_comm h]
  exact Eq.trans (b := (yb_lines v, yb_bad v, yb_state v, yb_queued v, yb_started v, yb_now v, yb_clock v, yb_turn v, yb_off v, yb_made v, yb_printed v, yb_panicValue v, yb_kind v, yb_opA v, yb_opB v, yb_opC v, yb_open v, yb_seen v, yb_unset v, yb_status v, upd (ya_depth v) g (nI (d + 1)), yb_since v, yb_resume v, yb_shocked v, yb_queue v, yb_until v, yb_channels v, upd (ya_pc v) (4 * g + d) (nI q), rl_ev (ya_vars v) (4 * g + d) p x y, upd (upd (ya_noted v) t z) (4 * g + d) 0, yb_noteOf v, yb_noteB v, yb_noteC v, upd (ya_asNote v) (4 * g + d) 0, upd (ya_panics v) (4 * g + d) 0, yb_panicWith v, yb_capacity v, yb_held v, yb_closed v, yb_values v, yb_out v)) rfl rfl
theorem nt_q {u u' : SX} {v v' : SY} {q : Nat} (a : xa_functionCount u' = xb_functionCount u) (b : xa_noteFunction u' = xb_noteFunction u) (c : xa_noteValues u' = xb_noteValues u) (d : ya_noteB v' = yb_noteB v) (e : ya_noteC v' = yb_noteC v) (h : (∃ f, f < 30 ∧ nI f < xa_functionCount u ∧ xa_noteFunction u q = nI f) ∧ xa_noteValues u (2 * q) = ya_noteB v q ∧ xa_noteValues u (2 * q + 1) = ya_noteC v q) :
    (∃ f, f < 30 ∧ nI f < xa_functionCount u' ∧ xa_noteFunction u' q = nI f) ∧ xa_noteValues u' (2 * q) = ya_noteB v' q ∧ xa_noteValues u' (2 * q + 1) = ya_noteC v' q := by
  rw [a, b, c, d, e]
  exact h
theorem mid_push {W : Nat} {u : SX} {v : SY} {n S g j q p : Nat} {x y a : Int32} {A : Nat → Int32} (H : rl_mid W u v n S g (j + 1)) (hj : j + 1 < 4) (A1 : A (4 * g + j + 1) = a) (A2 : ∀ i, ¬ i = 4 * g + j + 1 → A i = ya_asNote v i)
    (hl : (a = 0 ∧ xa_mode u (4 * g + j) = 0 ∧ ya_panics v (4 * g + j) = 0 ∧ ∃ p, p < n ∧ xa_kinds u p = 15 ∧ ya_pc v (4 * g + j) = nI p ∧ xa_position u (4 * g + j) = nI (p + 1)) ∨ (a = 1 ∧ ((xa_mode u (4 * g + j) = 1 ∧ ya_panics v (4 * g + j) = 0) ∨ (xa_mode u (4 * g + j) = 2 ∧ ya_panics v (4 * g + j) = 1)))) :
    rl_mid W (xs_variables (xe_w u g (j + 1) q) (rl_ev (xa_variables u) (4 * g + (j + 1)) p x y)) (ys_asNote (ye_s v g (j + 1) q p x y) A) n S g (j + 2) := by
  obtain ⟨m1, m2, m3, m4, m5, m6, m7, m8, m9, m10, m11⟩ := me_b H.2.2.2.2.2
  obtain ⟨L0, B1, B2, B3, B4, B5, B6, B7, B8, B9, B10, B11, B12, B13, B14, B15, B16, B17, B18, B19, B20, B21, B22⟩ := bs_b H.1.1
  have pX : ∀ i, i < j + 1 → xa_position (xs_variables (xe_w u g (j + 1) q) (rl_ev (xa_variables u) (4 * g + (j + 1)) p x y)) (4 * g + i) = xa_position u (4 * g + i) := fun i hi => (pk_un (by omega) : upd (xa_position u) (4 * g + (j + 1)) (nI q) (4 * g + i) = _)
  have mX : ∀ i, i < j + 1 → xa_mode (xs_variables (xe_w u g (j + 1) q) (rl_ev (xa_variables u) (4 * g + (j + 1)) p x y)) (4 * g + i) = xa_mode u (4 * g + i) := fun i hi => (pk_un (by omega) : upd (xa_mode u) (4 * g + (j + 1)) 0 (4 * g + i) = _)
  have cX : ∀ i, i < j + 1 → xa_noteCount (xs_variables (xe_w u g (j + 1) q) (rl_ev (xa_variables u) (4 * g + (j + 1)) p x y)) (4 * g + i) = xa_noteCount u (4 * g + i) := fun i hi => (pk_un (by omega) : upd (xa_noteCount u) (4 * g + (j + 1)) 0 (4 * g + i) = _)
  have pY : ∀ i, i < j + 1 → ya_pc (ys_asNote (ye_s v g (j + 1) q p x y) A) (4 * g + i) = ya_pc v (4 * g + i) := fun i hi => (pk_un (by omega) : upd (ya_pc v) (4 * g + (j + 1)) (nI q) (4 * g + i) = _)
  have nY : ∀ i, i < j + 1 → ya_panics (ys_asNote (ye_s v g (j + 1) q p x y) A) (4 * g + i) = ya_panics v (4 * g + i) := fun i hi => (pk_un (by omega) : upd (ya_panics v) (4 * g + (j + 1)) 0 (4 * g + i) = _)
  refine mid_loc H ⟨⟨rfl, rfl, rfl, rfl, rfl, rfl, rfl, rfl, rfl, rfl⟩, rfl, rfl, rfl, rfl, rfl, rfl, fun g1 h1 => ⟨rfl, (pk_un h1 : (upd (xa_depth u) g (nI (j + 1 + 1))) g1 = xa_depth u g1), rfl, fr_er, fr_er, (fr_e4 h1 hj : fr_e 4 g1 (xa_position u) (upd (xa_position u) (4 * g + (j + 1)) (nI q))), (fr_e4 h1 hj : fr_e 4 g1 (xa_mode u) (upd (xa_mode u) (4 * g + (j + 1)) 0)), (fr_e4 h1 hj : fr_e 4 g1 (xa_noteCount u) (upd (xa_noteCount u) (4 * g + (j + 1)) 0)), fr_er, fr_er, (fr_ev h1 hj : fr_e 24 g1 (xa_variables u) (rl_ev (xa_variables u) (4 * g + (j + 1)) p x y))⟩⟩ ⟨rfl, rfl, rfl, fun g1 h1 => ⟨rfl, (pk_un h1 : (upd (ya_depth v) g (nI (j + 1 + 1))) g1 = ya_depth v g1), rfl, rfl, rfl, rfl, (fr_e4 h1 hj : fr_e 4 g1 (ya_pc v) (upd (ya_pc v) (4 * g + (j + 1)) (nI q))), (fun i hi => A2 _ (by omega) : fr_e 4 g1 (ya_asNote v) (A)), (fr_e4 h1 hj : fr_e 4 g1 (ya_panics v) (upd (ya_panics v) (4 * g + (j + 1)) 0)), fr_er, fr_er⟩⟩
    ⟨L0, B1, B2, B3, B4, B5, B6, B7, B8, B9, B10, B11, B12, B13, B14, B15, B16, B17, (show rl_ev (yb_vars v) (4 * g + (j + 1)) p x y = rl_ev (xb_variables u) (4 * g + (j + 1)) p x y by rw [B18]), (show upd (yb_noted v) (4 * g + (j + 1)) 0 = upd (xb_noteCount u) (4 * g + (j + 1)) 0 by rw [B19]), B20, B21, B22⟩ (chn_fr H.1.2.2.2.2.2.2.1 rfl rfl rfl rfl rfl rfl)
    ⟨by omega, by omega, (pk_us : upd (xa_depth u) g (nI (j + 1 + 1)) g = _), (pk_us : upd (ya_depth v) g (nI (j + 1 + 1)) g = _), ⟨((A2 (4 * g) (by omega)).trans m5.1 : A (4 * g) = 0), fun i hi => ?_⟩, fun i hi => ?_, m7, m8, m9, m10, (rl_nw_fr rfl fr_er m11)⟩
  · have kX : xa_kinds (xs_variables (xe_w u g (j + 1) q) (rl_ev (xa_variables u) (4 * g + (j + 1)) p x y)) = xb_kinds u := rfl
    rw [pX i (by omega), mX i (by omega), pY i (by omega), nY i (by omega), kX]
    by_cases e : i = j
    · subst e
      have A1' : ya_asNote (ys_asNote (ye_s v g (i + 1) q p x y) A) (4 * g + i + 1) = a := A1
      rw [A1']
      exact hl
    · have A3 : ya_asNote (ys_asNote (ye_s v g (j + 1) q p x y) A) (4 * g + i + 1) = ya_asNote v (4 * g + i + 1) := A2 _ (by omega)
      rw [A3]
      exact m5.2 i (by omega)
  · by_cases e : i = j + 1
    · subst e
      exact ⟨0, by omega, (pk_us : upd (xa_noteCount u) (4 * g + (j + 1)) 0 (4 * g + (j + 1)) = 0), fun i hi => by omega⟩
    · obtain ⟨c, c1, c2, c3⟩ := m6 i (by omega)
      exact ⟨c, c1, (cX i (by omega)).trans c2, fun q hq => nt_q rfl rfl rfl rfl rfl (c3 q hq)⟩
/-- one note less -/
theorem mid_dec {W : Nat} {u : SX} {v : SY} {n S g j c : Nat} (H : rl_mid W u v n S g (j + 1)) (hc : xa_noteCount u (4 * g + j) = nI (c + 1)) (c3 : c < 3) : rl_mid W (xs_noteCount u (upd (xa_noteCount u) (4 * g + j) (nI c))) (ys_noted v (upd (ya_noted v) (4 * g + j) (nI c))) n S g (j + 1) := by
  obtain ⟨m1, m2, m3, m4, m5, m6, m7, m8, m9, m10, m11⟩ := me_b H.2.2.2.2.2
  obtain ⟨L0, B1, B2, B3, B4, B5, B6, B7, B8, B9, B10, B11, B12, B13, B14, B15, B16, B17, B18, B19, B20, B21, B22⟩ := bs_b H.1.1
  refine mid_loc H ⟨⟨rfl, rfl, rfl, rfl, rfl, rfl, rfl, rfl, rfl, rfl⟩, rfl, rfl, rfl, rfl, rfl, rfl, fun g1 h1 => ⟨rfl, rfl, rfl, fr_er, fr_er, fr_er, fr_er, (fr_e4 h1 (by omega) : fr_e 4 g1 (xa_noteCount u) (upd (xa_noteCount u) (4 * g + j) (nI c))), fr_er, fr_er, fr_er⟩⟩ ⟨rfl, rfl, rfl, fun g1 h1 => ⟨rfl, rfl, rfl, rfl, rfl, rfl, fr_er, fr_er, fr_er, fr_er, fr_er⟩⟩ ⟨L0, B1, B2, B3, B4, B5, B6, B7, B8, B9, B10, B11, B12, B13, B14, B15, B16, B17, B18, (show upd (yb_noted v) (4 * g + j) (nI c) = upd (xb_noteCount u) (4 * g + j) (nI c) by rw [B19]), B20, B21, B22⟩ (chn_fr H.1.2.2.2.2.2.2.1 rfl rfl rfl rfl rfl rfl) ⟨m1, m2, m3, m4, (rl_low_fr rfl m2 fr_er fr_er fr_er fr_er fr_er m5), fun i hi => ?_, m7, m8, m9, m10, (rl_nw_fr rfl fr_er m11)⟩
  obtain ⟨c', c1, c2, c4⟩ := m6 i hi
  by_cases e : i = j
  · subst e
    rw [hc] at c2
    have cc : c + 1 = c' := (nI_eq (by omega) (by omega)).mp c2
    exact ⟨c, by omega, (pk_us : upd (xa_noteCount u) (4 * g + i) (nI c) (4 * g + i) = nI c), fun q hq => nt_q rfl rfl rfl rfl rfl (c4 q (by omega))⟩
  · exact ⟨c', c1, (pk_un (by omega) : upd (xa_noteCount u) (4 * g + j) (nI c) (4 * g + i) = _).trans c2, fun q hq => nt_q rfl rfl rfl rfl rfl (c4 q hq)⟩
theorem ix3 {t i : Nat} : nI t * 3 + nI i = nI (3 * t + i) := by
  rw [show (3 : Int32) = nI 3 from rfl, pk_mul, nI_add]; exact congrArg nI (by omega)
theorem ix2 {t : Nat} : nI t * 2 = nI (2 * t) := by
  rw [show (2 : Int32) = nI 2 from rfl, pk_mul]; exact congrArg nI (by omega)
theorem iy3 {t i : Nat} : (3 * nI t + nI (i + 1)) - 1 = nI (3 * t + i) := by
  rw [show (3 : Int32) = nI 3 from rfl, pk_mul, nI_add, show 3 * t + (i + 1) = 3 * t + i + 1 by omega, nI_p]
theorem xl_note {Q : SX → Prop} {u : SX} {g j c f q p : Nat} (hg : g < 12) (hj : j + 1 < 4) (hr : xa_running u = nI g) (hd : xa_depth u g = nI (j + 1)) (hn : xa_noteCount u (4 * g + j) = nI (c + 1)) (hc : c < 3) (hf : xa_noteFunction u (3 * (4 * g + j) + c) = nI f) (f30 : f < 30) (fl : xa_functionLine u f = nI q) (hq : q < 60) (ep : xa_argA u q = nI p) (hp : p < 3)
    (h : Q (xs_variables (xe_w (xs_noteCount u (upd (xa_noteCount u) (4 * g + j) (nI c))) g (j + 1) q) (rl_ev (xa_variables u) (4 * g + (j + 1)) p (xa_noteValues u (2 * (3 * (4 * g + j) + c))) (xa_noteValues u (2 * (3 * (4 * g + j) + c) + 1))))) : wpX_leave Q u (nI (4 * g + j)) := by
  have vg : vp_in (nI g) 12 := vp_in_nI hg (by decide)
  have cg : (nI g).toNatClampNeg = g := nI_clamp (by omega)
  have vt : vp_in (nI (4 * g + j)) 48 := vp_in_nI (by omega) (by decide)
  have ct : (nI (4 * g + j)).toNatClampNeg = 4 * g + j := nI_clamp (by omega)
  rw [ux_leave, ct, hn]
  refine ⟨vt, br_f (nI_nle (by omega) (by omega)) ?_⟩
  rw [ux_callLatestNote, hr, cg, ct, hd, hn, nI_p]
  refine ⟨vg, br_t (nI_lt (b := 4) hj (by decide)) ⟨vt, vt, nm_e ⟨vt, ?_⟩⟩⟩
  rw [pk_us, ix3]
  refine nm_e (nm_r ix2 ⟨vp_in_nI (by omega) (by decide), vp_in_nI (by omega) (by decide), ?_⟩)
  rw [nI_1, nI_clamp (show 3 * (4 * g + j) + c < 2 ^ 31 by omega), nI_clamp (show 2 * (3 * (4 * g + j) + c) < 2 ^ 31 by omega), nI_clamp (show 2 * (3 * (4 * g + j) + c) + 1 < 2 ^ 31 by omega), hf]
  exact ⟨vp_in_nI (by omega) (by decide), xe_enter (u := xs_noteCount u (upd (xa_noteCount u) (4 * g + j) (nI c))) hg hj hd f30 fl hq ep hp h⟩
theorem xl_over {Q : SX → Prop} {u : SX} {g j c : Nat} (hg : g < 12) (hj : j + 1 = 4) (hr : xa_running u = nI g) (hd : xa_depth u g = nI (j + 1)) (hn : xa_noteCount u (4 * g + j) = nI (c + 1)) (hc : c < 3) (h : Q (xs_state u 5)) : wpX_leave Q u (nI (4 * g + j)) := by
  have vg : vp_in (nI g) 12 := vp_in_nI hg (by decide)
  have cg : (nI g).toNatClampNeg = g := nI_clamp (by omega)
  have vt : vp_in (nI (4 * g + j)) 48 := vp_in_nI (by omega) (by decide)
  have ct : (nI (4 * g + j)).toNatClampNeg = 4 * g + j := nI_clamp (by omega)
  rw [ux_leave, ct, hn]
  refine ⟨vt, br_f (nI_nle (by omega) (by omega)) ?_⟩
  rw [ux_callLatestNote, hr, cg, ct, hd, hj]
  exact ⟨vg, br_f (by decide) h⟩
theorem ye_over {P : SY → Prop} {v : SY} {g : Nat} {f x y : Int32} (hg : g < 12) (hd : ya_depth v g = nI 4) (h : P (ys_state v 5)) : wpY_enter P v (nI g) f x y := by
  rw [uy_enter, nI_clamp (show g < 2 ^ 31 by omega), hd]
  exact ⟨vp_in_nI hg (by decide), br_t rfl h⟩
theorem yl_nt {P : SY → Prop} {v : SY} {g j c cc m : Nat} {f x y : Int32} (hg : g < 12) (hj : j + 1 ≤ 4) (hcc : cc < 10) (hd : ya_depth v g = nI (j + 1)) (hn : ya_noted v (4 * g + j) = nI (c + 1)) (hc : c < 3) (ef : ya_noteOf v (3 * (4 * g + j) + c) = f) (ex : ya_noteB v (3 * (4 * g + j) + c) = x) (ey : ya_noteC v (3 * (4 * g + j) + c) = y)
    (h : wpY_enter (fun u159 => (ya_state u159 = 1 → (vp_in (nI (4 * g + j)) 48 ∧ (vp_in (nI (4 * g + j)) 48 ∧ ∀ a_noted_203, a_noted_203 = upd (ya_noted u159) (4 * g + j) (vp_nar .byte (((ya_noted u159 (4 * g + j)) - 1).toInt8.toInt32)) → (wpY_top (fun r_204 => (vp_in r_204 48 ∧ ∀ a_asNote_247, a_asNote_247 = upd (ya_asNote u159) r_204.toNatClampNeg (vp_nar .boolean 1) → (P (ys_asNote (ys_noted u159 a_noted_203) a_asNote_247)))) (ys_noted u159 a_noted_203) (nI g))))) ∧ (¬ ya_state u159 = 1 → P u159)) v (nI g) f x y) : cy_leave_2 P (nI g) (m + 1) (nI cc) v := by
  have vt : vp_in (nI (4 * g + j)) 48 := vp_in_nI (by omega) (by decide)
  have ct : (nI (4 * g + j)).toNatClampNeg = 4 * g + j := nI_clamp (by omega)
  have v3 : vp_in (nI (3 * (4 * g + j) + c)) 144 := vp_in_nI (by omega) (by decide)
  rw [uy_leave_2]
  refine br_f (nI_ge (b := 10) hcc (by decide)) (yg_topOf (d := j + 1) hg (by omega) hd ?_)
  rw [show 4 * g + (j + 1) - 1 = 4 * g + j from rfl, ct, hn, iy3]
  refine ⟨vt, br_f (nI_nle (by omega) (by omega)) ⟨vt, nm_e ?_⟩⟩
  rw [nI_clamp (show 3 * (4 * g + j) + c < 2 ^ 31 by omega), ef, ex, ey]
  exact ⟨v3, v3, v3, h⟩
theorem yl_note {P : SY → Prop} {v : SY} {n g j c cc f m : Nat} (T : sy_st v n) (hg : g < 12) (hj : j + 1 < 4) (hcc : cc < 10) (s : ya_state v = 1) (hd : ya_depth v g = nI (j + 1)) (hn : ya_noted v (4 * g + j) = nI (c + 1)) (hc : c < 3) (ef : ya_noteOf v (3 * (4 * g + j) + c) = nI f) (hf : f < st_f (ya_kind v) n)
    (h : ∀ q p, q < n → ya_kind v q = 0 → st_f (ya_kind v) q = f → ya_opA v q = nI p → p < 3 → P (ys_asNote (ye_s (ys_noted v (upd (ya_noted v) (4 * g + j) (nI c))) g (j + 1) q p (ya_noteB v (3 * (4 * g + j) + c)) (ya_noteC v (3 * (4 * g + j) + c))) (upd (upd (ya_asNote v) (4 * g + (j + 1)) 0) (4 * g + (j + 1)) 1))) : cy_leave_2 P (nI g) (m + 1) (nI cc) v := by
  have vt : vp_in (nI (4 * g + j)) 48 := vp_in_nI (by omega) (by decide)
  have key : ∀ w : SY, ya_state w = 1 → ya_noted w (4 * g + j) = nI (c + 1) → ya_depth w g = nI (j + 2) → P (ys_asNote (ys_noted w (upd (ya_noted w) (4 * g + j) (nI c))) (upd (ya_asNote w) (4 * g + (j + 1)) 1)) →
      ((ya_state w = 1 → (vp_in (nI (4 * g + j)) 48 ∧ (vp_in (nI (4 * g + j)) 48 ∧ ∀ a_noted_203, a_noted_203 = upd (ya_noted w) (4 * g + j) (vp_nar .byte (((ya_noted w (4 * g + j)) - 1).toInt8.toInt32)) → (wpY_top (fun r_204 => (vp_in r_204 48 ∧ ∀ a_asNote_247, a_asNote_247 = upd (ya_asNote w) r_204.toNatClampNeg (vp_nar .boolean 1) → (P (ys_asNote (ys_noted w a_noted_203) a_asNote_247)))) (ys_noted w a_noted_203) (nI g))))) ∧ (¬ ya_state w = 1 → P w)) := by
    intro w s1 e1 e2 hP
    refine br_t s1 ⟨vt, vt, nm_r (show _ = upd (ya_noted w) (4 * g + j) (nI c) by rw [e1, nI_p, nb_64 c (by omega)]) ?_⟩
    refine yg_topOf (v := ys_noted w (upd (ya_noted w) (4 * g + j) (nI c))) (d := j + 2) hg (by omega) e2 ?_
    rw [show 4 * g + (j + 2) - 1 = 4 * g + (j + 1) from rfl, nI_clamp (show 4 * g + (j + 1) < 2 ^ 31 by omega)]
    exact ⟨vp_in_nI (by omega) (by decide), nm_r (show _ = upd (ya_asNote w) (4 * g + (j + 1)) 1 from rfl) hP⟩
  have s' : yb_state v = 1 := s
  refine yl_nt hg (by omega) hcc hd hn hc ef rfl rfl (ye_enter T hg hj hd hf (fun q p a1 a2 a3 a4 a5 => key _ s' ((pk_un (by omega) : upd (ya_noted v) (4 * g + (j + 1)) 0 (4 * g + j) = ya_noted v (4 * g + j)).trans hn) (pk_us : upd (ya_depth v) g (nI (j + 1 + 1)) g = nI (j + 2)) ?_))
  have ea : ya_asNote (ye_s v g (j + 1) q p (ya_noteB v (3 * (4 * g + j) + c)) (ya_noteC v (3 * (4 * g + j) + c))) = upd (ya_asNote v) (4 * g + (j + 1)) 0 := rfl
  rw [ys_dec (by omega), ea]
  exact h q p a1 a2 a3 a4 a5
