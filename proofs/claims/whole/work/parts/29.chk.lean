/-! check, with each state a variable -/
def rl_iy (v w : SY) : Prop := ya_lines w = ya_lines v ∧ ya_kind w = ya_kind v ∧ ya_opA w = ya_opA v ∧ ya_opB w = ya_opB v ∧ ya_opC w = ya_opC v ∧ ya_state w = 0 ∧ ya_queued w = 0 ∧ ya_started w = 0 ∧ ya_now w = 0 ∧ ya_clock w = 0 ∧ ya_turn w = 0 ∧ ya_off w = 0 ∧ ya_made w = 0 ∧ ya_printed w = 0 ∧ ya_panicValue w = 0 ∧
  ya_out w = ya_out v ∧ ya_capacity w = ya_capacity v ∧ ya_held w = ya_held v ∧ ya_closed w = ya_closed v ∧ ya_vars w = ya_vars v ∧ ya_noted w = ya_noted v ∧ ya_noteOf w = ya_noteOf v ∧ ya_panicWith w = ya_panicWith v ∧ ya_since w = ya_since v ∧ rl_fresh (ya_status w) (ya_depth w) (ya_resume w) (ya_shocked w) 0
def rl_ix (u w : SX) : Prop := xa_lineCount w = xa_lineCount u ∧ xa_kinds w = xa_kinds u ∧ xa_argA w = xa_argA u ∧ xa_argB w = xa_argB u ∧ xa_argC w = xa_argC u ∧ xa_state w = 0 ∧ xa_queueLength w = 0 ∧ xa_goroutineCount w = 0 ∧ xa_time w = 0 ∧ xa_waitsBegun w = 0 ∧ xa_running w = -1 ∧ xa_channelCount w = 0 ∧ xa_outputCount w = 0 ∧ xa_endingPanic w = 0 ∧
  xa_outputs w = xa_outputs u ∧ xa_capacity w = xa_capacity u ∧ xa_fill w = xa_fill u ∧ xa_closed w = xa_closed u ∧ xa_variables w = xa_variables u ∧ xa_noteCount w = xa_noteCount u ∧ xa_noteFunction w = xa_noteFunction u ∧ xa_panicOf w = xa_panicOf u ∧ xa_waitOrder w = xa_waitOrder u
theorem iy_id {v w : SY} (h : rl_idy v w) : rl_iy v w := by
  obtain ⟨a1, a2, a3, a4, a5, a6, a7, a8, a9, b1, b2, b3, b4, b5, b6, b7, b8, b9, c1, c2, c3, c4, c5, c6, c7, c8⟩ := h
  exact ⟨a1, a2, a3, a4, a5, a7, a8, a9, b1, b2, b3, b4, b5, b6, b7, b8, b9, c1, c2, c3, c4, c5, c6, c7, c8⟩
theorem iy_fm {v w : SY} {op sn : Nat → Int32} (h : rl_iy v w) : rl_iy v (fm_v w op sn) := by
  obtain ⟨a1, a2, a3, a4, a5, a7, a8, a9, b1, b2, b3, b4, b5, b6, b7, b8, b9, c1, c2, c3, c4, c5, c6, c7, c8⟩ := h
  exact ⟨a1, a2, a3, a4, a5, a7, a8, a9, b1, b2, b3, b4, b5, b6, b7, b8, b9, c1, c2, c3, c4, c5, c6, c7, c8⟩
theorem iy_bd {v w : SY} {x : Int32} (h : rl_iy v w) : rl_iy v (ys_bad w x) := by
  obtain ⟨a1, a2, a3, a4, a5, a7, a8, a9, b1, b2, b3, b4, b5, b6, b7, b8, b9, c1, c2, c3, c4, c5, c6, c7, c8⟩ := h
  exact ⟨a1, a2, a3, a4, a5, a7, a8, a9, b1, b2, b3, b4, b5, b6, b7, b8, b9, c1, c2, c3, c4, c5, c6, c7, c8⟩
theorem iy_us {v w : SY} {U : Nat → Int32} (h : rl_iy v w) : rl_iy v (ys_unset w U) := by
  obtain ⟨a1, a2, a3, a4, a5, a7, a8, a9, b1, b2, b3, b4, b5, b6, b7, b8, b9, c1, c2, c3, c4, c5, c6, c7, c8⟩ := h
  exact ⟨a1, a2, a3, a4, a5, a7, a8, a9, b1, b2, b3, b4, b5, b6, b7, b8, b9, c1, c2, c3, c4, c5, c6, c7, c8⟩
theorem ix_id {u w : SX} (h : rl_idx u w) : rl_ix u w := by
  obtain ⟨a1, a2, a3, a4, a5, a6, a7, a8, a9, b1, b2, b3, b4, b5, b6, b7, b8, b9, c1, c2, c3, c4, c5, c6⟩ := h
  exact ⟨a1, a2, a3, a4, a5, a7, a8, a9, b1, b2, b3, b4, b5, b6, b7, b8, b9, c1, c2, c3, c4, c5, c6⟩
theorem ix_fm {u w : SX} {fc : Int32} {bo eo el fl : Nat → Int32} (h : rl_ix u w) : rl_ix u (fm_w w fc bo eo el fl) := by
  obtain ⟨a1, a2, a3, a4, a5, a7, a8, a9, b1, b2, b3, b4, b5, b6, b7, b8, b9, c1, c2, c3, c4, c5, c6⟩ := h
  exact ⟨a1, a2, a3, a4, a5, a7, a8, a9, b1, b2, b3, b4, b5, b6, b7, b8, b9, c1, c2, c3, c4, c5, c6⟩
theorem ix_fl {u w : SX} {x : Int32} (h : rl_ix u w) : rl_ix u (xs_foundLine w x) := by
  obtain ⟨a1, a2, a3, a4, a5, a7, a8, a9, b1, b2, b3, b4, b5, b6, b7, b8, b9, c1, c2, c3, c4, c5, c6⟩ := h
  exact ⟨a1, a2, a3, a4, a5, a7, a8, a9, b1, b2, b3, b4, b5, b6, b7, b8, b9, c1, c2, c3, c4, c5, c6⟩
theorem ix_ss {u w : SX} {S : Nat → Int32} (h : rl_ix u w) : rl_ix u (xs_surelySet w S) := by
  obtain ⟨a1, a2, a3, a4, a5, a7, a8, a9, b1, b2, b3, b4, b5, b6, b7, b8, b9, c1, c2, c3, c4, c5, c6⟩ := h
  exact ⟨a1, a2, a3, a4, a5, a7, a8, a9, b1, b2, b3, b4, b5, b6, b7, b8, b9, c1, c2, c3, c4, c5, c6⟩
theorem sx_fl {w : SX} {n : Nat} {x : Int32} (h : sx_st w n) : sx_st (xs_foundLine w x) n := by
  obtain ⟨a1, a2, a3, a4, a5, a6, a7⟩ := h
  exact ⟨a1, a2, a3, a4, a5, a6, a7⟩
theorem sx_ss {w : SX} {n : Nat} {S : Nat → Int32} (h : sx_st w n) : sx_st (xs_surelySet w S) n := by
  obtain ⟨a1, a2, a3, a4, a5, a6, a7⟩ := h
  exact ⟨a1, a2, a3, a4, a5, a6, a7⟩
theorem xk_3 {post : Int32 → SX → Prop} {u w : SX} {n : Nat} (hi : rl_ix u w) (T : sx_st w n)
    (h3 : ∀ r w', rl_ix u w' → ¬ r = -1 → un_res (xa_kinds u) (xa_argA u) (xa_argB u) (xa_argC u) n r → xa_foundLine w' = r → post 3 w')
    (h0 : ∀ w', rl_ix u w' → sx_st w' n → un_res (xa_kinds u) (xa_argA u) (xa_argB u) (xa_argC u) n (-1) → xa_foundLine w' = -1 → wpX_startGoroutine (fun r_168 u169 => post 0 (xs_running (xs_state u169 1) r_168)) w' 0 0 0) :
    wpX_unsetFault (fun r_126 u127 => (r_126 = (-1) → (wpX_startGoroutine (fun r_168 u169 => (post 0 (xs_running (xs_state u169 1) r_168))) (xs_foundLine u127 r_126) 0 0 0)) ∧ (¬ r_126 = (-1) → (post 3 (xs_foundLine u127 r_126)))) w := by
  refine xu_unset T (fun r S' hu => ?_)
  rw [hi.2.1, hi.2.2.1, hi.2.2.2.1, hi.2.2.2.2.1] at hu
  exact br_c (fun e => h0 _ (ix_fl (ix_ss hi)) (sx_fl (sx_ss T)) (by rw [← e]; exact hu) e) (fun e => h3 r _ (ix_fl (ix_ss hi)) e hu rfl)
theorem xk_2 {post : Int32 → SX → Prop} {u w : SX} {n : Nat} (hi : rl_ix u w) (hn : xa_lineCount u = nI n) (n60 : n ≤ 60) (hr : fm_res (xa_kinds u) n (-1)) (L : ∀ i, i < n → ln_ok (xa_kinds u i) (xa_argA u i) (xa_argB u i) (xa_argC u i))
    (hA : fm_A (xa_kinds w) n (xa_functionCount w) (xa_blockOf w) (xa_endOf w) (xa_elseOf w) (xa_functionLine w))
    (h2 : ∀ r w', rl_ix u w' → ¬ r = -1 → ce_res (xa_kinds u) (xa_argA u) (st_f (xa_kinds u) n) n r → xa_foundLine w' = r → post 2 w')
    (h3 : ∀ r w', rl_ix u w' → ce_res (xa_kinds u) (xa_argA u) (st_f (xa_kinds u) n) n (-1) → ¬ r = -1 → un_res (xa_kinds u) (xa_argA u) (xa_argB u) (xa_argC u) n r → xa_foundLine w' = r → post 3 w')
    (h0 : ∀ w', rl_ix u w' → ce_res (xa_kinds u) (xa_argA u) (st_f (xa_kinds u) n) n (-1) → sx_st w' n → un_res (xa_kinds u) (xa_argA u) (xa_argB u) (xa_argC u) n (-1) → xa_foundLine w' = -1 → wpX_startGoroutine (fun r_168 u169 => post 0 (xs_running (xs_state u169 1) r_168)) w' 0 0 0) :
    wpX_calleeFault (fun r_84 => (r_84 = (-1) → (wpX_unsetFault (fun r_126 u127 => (r_126 = (-1) → (wpX_startGoroutine (fun r_168 u169 => (post 0 (xs_running (xs_state u169 1) r_168))) (xs_foundLine u127 r_126) 0 0 0)) ∧ (¬ r_126 = (-1) → (post 3 (xs_foundLine u127 r_126)))) (xs_foundLine w r_84))) ∧ (¬ r_84 = (-1) → (post 2 (xs_foundLine w r_84)))) (xs_foundLine w (-1)) := by
  have k1 := hi.2.1
  have k2 := hi.2.2.1
  have k3 := hi.2.2.2.1
  have k4 := hi.2.2.2.2.1
  have q := hA.2.2.2.2.1
  refine xc_callee (u := xs_foundLine w (-1)) (n := n) (F := st_f (xa_kinds w) n) (hi.1.trans hn : xa_lineCount w = nI n) n60 (q : xa_functionCount w = _) (fun rc hc => ?_)
  have hc : ce_res (xa_kinds w) (xa_argA w) (st_f (xa_kinds w) n) n rc := hc
  have hc' := hc
  rw [k1, k2] at hc
  refine br_c (fun e => ?_) (fun e => h2 rc _ (ix_fl hi) e hc rfl)
  subst e
  have T : sx_st w n := by
    obtain ⟨W, ok, n0⟩ := fm_wf n60 hr
    refine ⟨hi.1.trans hn, by rw [k1]; exact W, n0, by rw [k1]; exact ok, hA, by rw [k1, k2, k3, k4]; exact L, ?_⟩
    rw [q]
    rcases hc' with ⟨i, a, _, _, _, d⟩ | ⟨b, _⟩
    · exact absurd d.symm (ne_m1 (by omega))
    · exact b
  exact xk_3 (ix_fl hi) (sx_fl T) (fun r w' a b c d => h3 r w' a hc b c d) (fun w' a b c d => h0 w' a hc b c d)
