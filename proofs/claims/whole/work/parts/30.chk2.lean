/-! check: its form; Y -/
theorem xk_1 {post : Int32 → SX → Prop} {u : SX} {n : Nat} (hn : xa_lineCount u = nI n) (n60 : n ≤ 60) (L : ∀ i, i < n → ln_ok (xa_kinds u i) (xa_argA u i) (xa_argB u i) (xa_argC u i))
    (h1 : ∀ r w', rl_ix u w' → ¬ r = -1 → fm_res (xa_kinds u) n r → xa_foundLine w' = r → post 1 w')
    (h2 : ∀ r w', rl_ix u w' → fm_res (xa_kinds u) n (-1) → ¬ r = -1 → ce_res (xa_kinds u) (xa_argA u) (st_f (xa_kinds u) n) n r → xa_foundLine w' = r → post 2 w')
    (h3 : ∀ r w', rl_ix u w' → fm_res (xa_kinds u) n (-1) → ce_res (xa_kinds u) (xa_argA u) (st_f (xa_kinds u) n) n (-1) → ¬ r = -1 → un_res (xa_kinds u) (xa_argA u) (xa_argB u) (xa_argC u) n r → xa_foundLine w' = r → post 3 w')
    (h0 : ∀ w', rl_ix u w' → fm_res (xa_kinds u) n (-1) → ce_res (xa_kinds u) (xa_argA u) (st_f (xa_kinds u) n) n (-1) → sx_st w' n → un_res (xa_kinds u) (xa_argA u) (xa_argB u) (xa_argC u) n (-1) → xa_foundLine w' = -1 → wpX_startGoroutine (fun r_168 u169 => post 0 (xs_running (xs_state u169 1) r_168)) w' 0 0 0) :
    wpX_check post u := by
  rw [ux_check]
  refine xi_gen (fun w hw => ?_)
  have hi := ix_id hw
  refine xf_form (u := w) (hi.1.trans hn) n60 (fun r fc bo eo el fl hr hA => ?_)
  have key : ∀ w2, rl_ix u w2 → (r = -1 → fm_A (xa_kinds w2) n (xa_functionCount w2) (xa_blockOf w2) (xa_endOf w2) (xa_elseOf w2) (xa_functionLine w2)) →
      ((r = (-1) → (wpX_calleeFault (fun r_84 => (r_84 = (-1) → (wpX_unsetFault (fun r_126 u127 => (r_126 = (-1) → (wpX_startGoroutine (fun r_168 u169 => (post 0 (xs_running (xs_state u169 1) r_168))) (xs_foundLine u127 r_126) 0 0 0)) ∧ (¬ r_126 = (-1) → (post 3 (xs_foundLine u127 r_126)))) (xs_foundLine w2 r_84))) ∧ (¬ r_84 = (-1) → (post 2 (xs_foundLine w2 r_84)))) (xs_foundLine w2 r))) ∧ (¬ r = (-1) → (post 1 (xs_foundLine w2 r)))) := by
    intro w2 i2 A2
    rw [hi.2.1] at hr
    refine br_c (fun e => ?_) (fun e => h1 r _ (ix_fl i2) e hr rfl)
    subst e
    exact xk_2 i2 hn n60 hr L (A2 rfl) (fun r w' a b c d => h2 r w' a hr b c d) (fun r w' a b c d e => h3 r w' a hr b c d e) (fun w' a b c d e => h0 w' a hr b c d e)
  exact key _ (ix_fm hi) hA
theorem sy_of {v w : SY} {n : Nat} {x : Int32} (T : sy_st v n) (hi : rl_iy v w) : sy_st (ys_bad w x) n := by
  obtain ⟨a1, a2, a3, a4, a5, a6, a7⟩ := T
  have k1 := hi.2.1
  have k2 := hi.2.2.1
  have k3 := hi.2.2.2.1
  have k4 := hi.2.2.2.2.1
  exact ⟨(hi.1.trans a1 : ya_lines w = nI n), (show st_wf (ya_kind w) n by rw [k1]; exact a2), a3, (show ∀ j, j < n → fm_ok (ya_kind w) j by rw [k1]; exact a4), (show ∀ i, i < n → ln_ok (ya_kind w i) (ya_opA w i) (ya_opB w i) (ya_opC w i) by rw [k1, k2, k3, k4]; exact a5),
    (show ∀ i, i < n → ln_go (ya_kind w i) → ya_opA w i < nI (st_f (ya_kind w) n) by rw [k1, k2]; exact a6), (show st_f (ya_kind w) n ≤ 30 by rw [k1]; exact a7)⟩
theorem yk_3 {post : Int32 → SY → Prop} {v w : SY} {n : Nat} {x : Int32} (hi : rl_iy v w) (T : sy_st v n)
    (h3 : ∀ r w', rl_iy v w' → ¬ r = -1 → un_res (ya_kind v) (ya_opA v) (ya_opB v) (ya_opC v) n r → ya_bad w' = r → post 3 w')
    (h0 : ∀ w', rl_iy v w' → un_res (ya_kind v) (ya_opA v) (ya_opB v) (ya_opC v) n (-1) → ya_bad w' = -1 → wpY_start (fun u173 => post 0 (ys_queued u173 0)) (ys_state w' 1) 0 0 0) :
    wpY_unsetLine (fun r_129 u130 => (r_129 < 0 → (wpY_start (fun u173 => (post 0 (ys_queued u173 0))) (ys_state (ys_bad u130 r_129) 1) 0 0 0)) ∧ (¬ r_129 < 0 → (post 3 (ys_bad u130 r_129)))) (ys_bad w x) := by
  refine yl_unset (sy_of T hi) (fun r U hu => ?_)
  have hu : un_res (ya_kind w) (ya_opA w) (ya_opB w) (ya_opC w) n r := hu
  rw [hi.2.1, hi.2.2.1, hi.2.2.2.1, hi.2.2.2.2.1] at hu
  have i2 := iy_us (U := U) (iy_bd (x := x) hi)
  by_cases e : r = -1
  · subst e
    exact br_t (by decide) (h0 _ (iy_bd i2) hu rfl)
  · exact br_f (un_sgn T.2.1.1 hu e) (h3 r _ (iy_bd i2) e hu rfl)
theorem yk_2 {post : Int32 → SY → Prop} {v w : SY} {n : Nat} {x : Int32} (hi : rl_iy v w) (hn : ya_lines v = nI n) (n60 : n ≤ 60) (F60 : st_f (ya_kind v) n ≤ 60) (hl : ∀ i, i < n → ln_go (ya_kind v i) → ∃ p, p < 30 ∧ ya_opA v i = nI p)
    (h2 : ∀ r w', rl_iy v w' → ¬ r = -1 → ce_res (ya_kind v) (ya_opA v) (st_f (ya_kind v) n) n r → ya_bad w' = r → post 2 w')
    (hS : ce_res (ya_kind v) (ya_opA v) (st_f (ya_kind v) n) n (-1) → sy_st v n)
    (h3 : ∀ r w', rl_iy v w' → ce_res (ya_kind v) (ya_opA v) (st_f (ya_kind v) n) n (-1) → ¬ r = -1 → un_res (ya_kind v) (ya_opA v) (ya_opB v) (ya_opC v) n r → ya_bad w' = r → post 3 w')
    (h0 : ∀ w', rl_iy v w' → ce_res (ya_kind v) (ya_opA v) (st_f (ya_kind v) n) n (-1) → un_res (ya_kind v) (ya_opA v) (ya_opB v) (ya_opC v) n (-1) → ya_bad w' = -1 → wpY_start (fun u173 => post 0 (ys_queued u173 0)) (ys_state w' 1) 0 0 0) :
    wpY_callee (fun r_86 => (r_86 < 0 → (wpY_unsetLine (fun r_129 u130 => (r_129 < 0 → (wpY_start (fun u173 => (post 0 (ys_queued u173 0))) (ys_state (ys_bad u130 r_129) 1) 0 0 0)) ∧ (¬ r_129 < 0 → (post 3 (ys_bad u130 r_129)))) (ys_bad w r_86))) ∧ (¬ r_86 < 0 → (post 2 (ys_bad w r_86)))) (ys_bad w x) := by
  have k1 := hi.2.1
  have k2 := hi.2.2.1
  refine yc_callee (v := ys_bad w x) (n := n) (F := st_f (ya_kind w) n) (hi.1.trans hn : ya_lines w = nI n) n60 rfl (by rw [k1]; exact F60) (show ∀ i, i < n → ln_go (ya_kind w i) → ∃ p, p < 30 ∧ ya_opA w i = nI p by rw [k1, k2]; exact hl) (fun rc hc => ?_)
  have hc : ce_res (ya_kind w) (ya_opA w) (st_f (ya_kind w) n) n rc := hc
  rw [k1, k2] at hc
  by_cases e : rc = -1
  · subst e
    exact br_t (by decide) (yk_3 hi (hS hc) (fun r w' a b c d => h3 r w' a hc b c d) (fun w' a b c => h0 w' a hc b c))
  · exact br_f (ce_sgn n60 hc e) (h2 rc _ (iy_bd hi) e hc rfl)
theorem yk_1 {post : Int32 → SY → Prop} {v : SY} {n : Nat} (hn : ya_lines v = nI n) (n60 : n ≤ 60) (F60 : fm_res (ya_kind v) n (-1) → st_f (ya_kind v) n ≤ 60) (hl : ∀ i, i < n → ln_go (ya_kind v i) → ∃ p, p < 30 ∧ ya_opA v i = nI p)
    (hS : fm_res (ya_kind v) n (-1) → ce_res (ya_kind v) (ya_opA v) (st_f (ya_kind v) n) n (-1) → sy_st v n)
    (h1 : ∀ r w', rl_iy v w' → ¬ r = -1 → fm_res (ya_kind v) n r → ya_bad w' = r → post 1 w')
    (h2 : ∀ r w', rl_iy v w' → fm_res (ya_kind v) n (-1) → ¬ r = -1 → ce_res (ya_kind v) (ya_opA v) (st_f (ya_kind v) n) n r → ya_bad w' = r → post 2 w')
    (h3 : ∀ r w', rl_iy v w' → fm_res (ya_kind v) n (-1) → ce_res (ya_kind v) (ya_opA v) (st_f (ya_kind v) n) n (-1) → ¬ r = -1 → un_res (ya_kind v) (ya_opA v) (ya_opB v) (ya_opC v) n r → ya_bad w' = r → post 3 w')
    (h0 : ∀ w', rl_iy v w' → fm_res (ya_kind v) n (-1) → ce_res (ya_kind v) (ya_opA v) (st_f (ya_kind v) n) n (-1) → un_res (ya_kind v) (ya_opA v) (ya_opB v) (ya_opC v) n (-1) → ya_bad w' = -1 → wpY_start (fun u173 => post 0 (ys_queued u173 0)) (ys_state w' 1) 0 0 0) :
    wpY_check post v := by
  rw [uy_check]
  refine yi_gen (fun w hw => ?_)
  have hi := iy_id hw
  refine yf_form (v := w) (hi.1.trans hn) n60 (fun r op sn hr => ?_)
  rw [hi.2.1] at hr
  have key : ∀ w2, rl_iy v w2 →
      ((r < 0 → (wpY_callee (fun r_86 => (r_86 < 0 → (wpY_unsetLine (fun r_129 u130 => (r_129 < 0 → (wpY_start (fun u173 => (post 0 (ys_queued u173 0))) (ys_state (ys_bad u130 r_129) 1) 0 0 0)) ∧ (¬ r_129 < 0 → (post 3 (ys_bad u130 r_129)))) (ys_bad w2 r_86))) ∧ (¬ r_86 < 0 → (post 2 (ys_bad w2 r_86)))) (ys_bad w2 r))) ∧ (¬ r < 0 → (post 1 (ys_bad w2 r)))) := by
    intro w2 i2
    by_cases e : r = -1
    · subst e
      exact br_t (by decide) (yk_2 i2 hn n60 (F60 hr) hl (fun r w' a b c d => h2 r w' a hr b c d) (hS hr) (fun r w' a b c d e => h3 r w' a hr b c d e) (fun w' a b c d => h0 w' a hr b c d))
    · exact br_f (fm_sgn n60 hr e) (h1 r _ (iy_bd i2) e hr rfl)
  exact key _ (iy_fm hi)
theorem ck_base {u w : SX} {v w' : SY} (B : rl_base u v) (hx : rl_ix u w) (hy : rl_iy v w') (hb : ya_bad w' = xa_foundLine w) : rl_base w w' := by
  obtain ⟨⟨n, n60, e1, e2, L⟩, B1, B2, B3, B4, B5, B6, B7, B8, B9, B10, B11, B12, B13, B14, B15, B16, B17, B18, B19, B20, B21, B22⟩ := B
  obtain ⟨a1, a2, a3, a4, a5, a7, a8, a9, b1, b2, b3, b4, b5, b6, b7, b8, b9, c1, c2, c3, c4, c5, c6⟩ := hx
  obtain ⟨y1, y2, y3, y4, y5, y7, y8, y9, z1, z2, z3, z4, z5, z6, z7, z8, z9, w1, w2, w3, w4, w5, w6, w7, w8⟩ := hy
  refine ⟨⟨n, n60, a1.trans e1, y1.trans e2, by rw [a2, a3, a4, a5]; exact L⟩, y2.trans (B1.trans a2.symm), y3.trans (B2.trans a3.symm), y4.trans (B3.trans a4.symm), y5.trans (B4.trans a5.symm), hb, y7.trans a7.symm, z2.trans b1.symm, z6.trans b5.symm, z8.trans (B9.trans b7.symm), z7.trans b6.symm, z5.trans b4.symm, z9.trans (B12.trans b8.symm), w1.trans (B13.trans b9.symm), w2.trans (B14.trans c1.symm), y9.trans a9.symm, z3.trans b2.symm, y8.trans a8.symm, w3.trans (B18.trans c2.symm), w4.trans (B19.trans c3.symm), w5.trans (B20.trans c4.symm), w6.trans (B21.trans c5.symm), w7.trans (B22.trans c6.symm)⟩
theorem ck_idle {k : Nat} {u w : SX} {v w' : SY} (B : rl_base u v) (hx : rl_ix u w) (hy : rl_iy v w') (hb : ya_bad w' = xa_foundLine w) : i_Rel k w w' := by
  refine ⟨ck_base B hx hy hb, ?_, fun s => ?_⟩
  · obtain ⟨a1, a2, a3, a4, a5, a7, a8, a9, b1, b2, b3, b4, b5⟩ := hx
    exact rl_obs0 a9 b4
  · have := hx.2.2.2.2.2.1
    rw [this] at s
    exact absurd s (by decide)
theorem ck_base1 {w : SX} {w' : SY} (B : rl_base w w') : rl_base (xs_state w 1) (ys_state w' 1) := by
  obtain ⟨⟨n, n60, e1, e2, L⟩, B1, B2, B3, B4, B5, B6, B7, B8, B9, B10, B11, B12, B13, B14, B15, B16, B17, B18, B19, B20, B21, B22⟩ := B
  exact ⟨⟨n, n60, e1, e2, L⟩, B1, B2, B3, B4, B5, rfl, B7, B8, B9, B10, B11, B12, B13, B14, B15, B16, B17, B18, B19, B20, B21, B22⟩
