/-! the switch over the kinds of lines -/
theorem xx_0 {P : SX → Prop} {u : SX} {g j at' : Nat} (hg : g < 12) (j4 : j < 4) (hr : xa_running u = nI g) (hd : xa_depth u g = nI (j + 1)) (hp : xa_position u (4 * g + j) = nI at') (h60 : at' < 60) (hk : xa_kinds u at' = 0) (h : P (xs_position u (upd (xa_position u) (4 * g + j) (nI (at' + 1))))) : wpX_execute P u := by
  have ct : (nI (4 * g + j)).toNatClampNeg = 4 * g + j := nI_clamp (by omega)
  have ca : (nI at').toNatClampNeg = at' := nI_clamp (by omega)
  have vt : vp_in (nI (4 * g + j)) 48 := vp_in_nI (by omega) (by decide)
  have va : vp_in (nI at') 60 := vp_in_nI h60 (by decide)
  rw [ux_execute, hr]
  refine xg_topOf (d := j + 1) hg (by omega) hd ?_
  rw [show 4 * g + (j + 1) - 1 = 4 * g + j from rfl, ct]
  refine ⟨vt, nm_r hp ?_⟩
  rw [ca, nI_1]
  refine ⟨va, xv_val (by omega) ⟨va, xv_val (by omega) ⟨va, xv_val (by omega) ⟨vt, nm_e ⟨va, nm_r hk ?_⟩⟩⟩⟩⟩
  exact br_f (by decide) (br_f (by decide) (br_t rfl h))
theorem xx_6 {P : SX → Prop} {u : SX} {g j at' : Nat} (hg : g < 12) (j4 : j < 4) (hr : xa_running u = nI g) (hd : xa_depth u g = nI (j + 1)) (hp : xa_position u (4 * g + j) = nI at') (h60 : at' < 60) (hk : xa_kinds u at' = 6) (h : wpX_communicate P (xs_position u (upd (xa_position u) (4 * g + j) (nI (at' + 1)))) (nI (4 * g + j)) (nI at')) : wpX_execute P u := by
  have ct : (nI (4 * g + j)).toNatClampNeg = 4 * g + j := nI_clamp (by omega)
  have ca : (nI at').toNatClampNeg = at' := nI_clamp (by omega)
  have vt : vp_in (nI (4 * g + j)) 48 := vp_in_nI (by omega) (by decide)
  have va : vp_in (nI at') 60 := vp_in_nI h60 (by decide)
  rw [ux_execute, hr]
  refine xg_topOf (d := j + 1) hg (by omega) hd ?_
  rw [show 4 * g + (j + 1) - 1 = 4 * g + j from rfl, ct]
  refine ⟨vt, nm_r hp ?_⟩
  rw [ca, nI_1]
  refine ⟨va, xv_val (by omega) ⟨va, xv_val (by omega) ⟨va, xv_val (by omega) ⟨vt, nm_e ⟨va, nm_r hk ?_⟩⟩⟩⟩⟩
  exact br_f (by decide) (br_f (by decide) (br_f (by decide) (br_f (by decide) (br_f (by decide) (br_f (by decide) (br_f (by decide) (br_f (by decide) (br_t rfl (by rw [ux_execute_280]; exact h)))))))))
theorem xx_10 {P : SX → Prop} {u : SX} {g j at' : Nat} (hg : g < 12) (j4 : j < 4) (hr : xa_running u = nI g) (hd : xa_depth u g = nI (j + 1)) (hp : xa_position u (4 * g + j) = nI at') (h60 : at' < 60) (hk : xa_kinds u at' = 10) (h : wpX_communicate P (xs_position u (upd (xa_position u) (4 * g + j) (nI (at' + 1)))) (nI (4 * g + j)) (nI at')) : wpX_execute P u := by
  have ct : (nI (4 * g + j)).toNatClampNeg = 4 * g + j := nI_clamp (by omega)
  have ca : (nI at').toNatClampNeg = at' := nI_clamp (by omega)
  have vt : vp_in (nI (4 * g + j)) 48 := vp_in_nI (by omega) (by decide)
  have va : vp_in (nI at') 60 := vp_in_nI h60 (by decide)
  rw [ux_execute, hr]
  refine xg_topOf (d := j + 1) hg (by omega) hd ?_
  rw [show 4 * g + (j + 1) - 1 = 4 * g + j from rfl, ct]
  refine ⟨vt, nm_r hp ?_⟩
  rw [ca, nI_1]
  refine ⟨va, xv_val (by omega) ⟨va, xv_val (by omega) ⟨va, xv_val (by omega) ⟨vt, nm_e ⟨va, nm_r hk ?_⟩⟩⟩⟩⟩
  exact br_f (by decide) (br_f (by decide) (br_f (by decide) (br_f (by decide) (br_f (by decide) (br_f (by decide) (br_f (by decide) (br_f (by decide) (br_f (by decide) (br_f (by decide) (br_f (by decide) (br_f (by decide) (br_t rfl (by rw [ux_execute_280]; exact h)))))))))))))
theorem xx_11 {P : SX → Prop} {u : SX} {g j at' : Nat} (hg : g < 12) (j4 : j < 4) (hr : xa_running u = nI g) (hd : xa_depth u g = nI (j + 1)) (hp : xa_position u (4 * g + j) = nI at') (h60 : at' < 60) (hk : xa_kinds u at' = 11) (h : wpX_communicate P (xs_position u (upd (xa_position u) (4 * g + j) (nI (at' + 1)))) (nI (4 * g + j)) (nI at')) : wpX_execute P u := by
  have ct : (nI (4 * g + j)).toNatClampNeg = 4 * g + j := nI_clamp (by omega)
  have ca : (nI at').toNatClampNeg = at' := nI_clamp (by omega)
  have vt : vp_in (nI (4 * g + j)) 48 := vp_in_nI (by omega) (by decide)
  have va : vp_in (nI at') 60 := vp_in_nI h60 (by decide)
  rw [ux_execute, hr]
  refine xg_topOf (d := j + 1) hg (by omega) hd ?_
  rw [show 4 * g + (j + 1) - 1 = 4 * g + j from rfl, ct]
  refine ⟨vt, nm_r hp ?_⟩
  rw [ca, nI_1]
  refine ⟨va, xv_val (by omega) ⟨va, xv_val (by omega) ⟨va, xv_val (by omega) ⟨vt, nm_e ⟨va, nm_r hk ?_⟩⟩⟩⟩⟩
  exact br_f (by decide) (br_f (by decide) (br_f (by decide) (br_f (by decide) (br_f (by decide) (br_f (by decide) (br_f (by decide) (br_f (by decide) (br_f (by decide) (br_f (by decide) (br_f (by decide) (br_f (by decide) (br_f (by decide) (br_t rfl (by rw [ux_execute_280]; exact h))))))))))))))
theorem xx_12 {P : SX → Prop} {u : SX} {g j at' : Nat} (hg : g < 12) (j4 : j < 4) (hr : xa_running u = nI g) (hd : xa_depth u g = nI (j + 1)) (hp : xa_position u (4 * g + j) = nI at') (h60 : at' < 60) (hk : xa_kinds u at' = 12) (h : wpX_closeChannel P (xs_position u (upd (xa_position u) (4 * g + j) (nI (at' + 1)))) (nI (4 * g + j)) (rl_val (xa_variables u) (4 * g + j) (xa_argA u at'))) : wpX_execute P u := by
  have ct : (nI (4 * g + j)).toNatClampNeg = 4 * g + j := nI_clamp (by omega)
  have ca : (nI at').toNatClampNeg = at' := nI_clamp (by omega)
  have vt : vp_in (nI (4 * g + j)) 48 := vp_in_nI (by omega) (by decide)
  have va : vp_in (nI at') 60 := vp_in_nI h60 (by decide)
  rw [ux_execute, hr]
  refine xg_topOf (d := j + 1) hg (by omega) hd ?_
  rw [show 4 * g + (j + 1) - 1 = 4 * g + j from rfl, ct]
  refine ⟨vt, nm_r hp ?_⟩
  rw [ca, nI_1]
  refine ⟨va, xv_val (by omega) ⟨va, xv_val (by omega) ⟨va, xv_val (by omega) ⟨vt, nm_e ⟨va, nm_r hk ?_⟩⟩⟩⟩⟩
  exact br_f (by decide) (br_f (by decide) (br_f (by decide) (br_f (by decide) (br_f (by decide) (br_f (by decide) (br_f (by decide) (br_f (by decide) (br_f (by decide) (br_f (by decide) (br_f (by decide) (br_f (by decide) (br_f (by decide) (br_f (by decide) (br_t rfl h))))))))))))))
theorem xx_13 {P : SX → Prop} {u : SX} {g j at' : Nat} (hg : g < 12) (j4 : j < 4) (hr : xa_running u = nI g) (hd : xa_depth u g = nI (j + 1)) (hp : xa_position u (4 * g + j) = nI at') (h60 : at' < 60) (hk : xa_kinds u at' = 13) (h : wpX_makeChannel P (xs_position u (upd (xa_position u) (4 * g + j) (nI (at' + 1)))) (nI (4 * g + j)) (nI at')) : wpX_execute P u := by
  have ct : (nI (4 * g + j)).toNatClampNeg = 4 * g + j := nI_clamp (by omega)
  have ca : (nI at').toNatClampNeg = at' := nI_clamp (by omega)
  have vt : vp_in (nI (4 * g + j)) 48 := vp_in_nI (by omega) (by decide)
  have va : vp_in (nI at') 60 := vp_in_nI h60 (by decide)
  rw [ux_execute, hr]
  refine xg_topOf (d := j + 1) hg (by omega) hd ?_
  rw [show 4 * g + (j + 1) - 1 = 4 * g + j from rfl, ct]
  refine ⟨vt, nm_r hp ?_⟩
  rw [ca, nI_1]
  refine ⟨va, xv_val (by omega) ⟨va, xv_val (by omega) ⟨va, xv_val (by omega) ⟨vt, nm_e ⟨va, nm_r hk ?_⟩⟩⟩⟩⟩
  exact br_f (by decide) (br_f (by decide) (br_f (by decide) (br_f (by decide) (br_f (by decide) (br_f (by decide) (br_f (by decide) (br_f (by decide) (br_f (by decide) (br_f (by decide) (br_f (by decide) (br_f (by decide) (br_f (by decide) (br_f (by decide) (br_f (by decide) (br_t rfl h)))))))))))))))
theorem xx_14 {P : SX → Prop} {u : SX} {g j at' : Nat} (hg : g < 12) (j4 : j < 4) (hr : xa_running u = nI g) (hd : xa_depth u g = nI (j + 1)) (hp : xa_position u (4 * g + j) = nI at') (h60 : at' < 60) (hk : xa_kinds u at' = 14) (h : wpX_startAnother P (xs_position u (upd (xa_position u) (4 * g + j) (nI (at' + 1)))) (nI (4 * g + j)) (xa_argA u at') (rl_val (xa_variables u) (4 * g + j) (xa_argB u at')) (rl_val (xa_variables u) (4 * g + j) (xa_argC u at'))) : wpX_execute P u := by
  have ct : (nI (4 * g + j)).toNatClampNeg = 4 * g + j := nI_clamp (by omega)
  have ca : (nI at').toNatClampNeg = at' := nI_clamp (by omega)
  have vt : vp_in (nI (4 * g + j)) 48 := vp_in_nI (by omega) (by decide)
  have va : vp_in (nI at') 60 := vp_in_nI h60 (by decide)
  rw [ux_execute, hr]
  refine xg_topOf (d := j + 1) hg (by omega) hd ?_
  rw [show 4 * g + (j + 1) - 1 = 4 * g + j from rfl, ct]
  refine ⟨vt, nm_r hp ?_⟩
  rw [ca, nI_1]
  refine ⟨va, xv_val (by omega) ⟨va, xv_val (by omega) ⟨va, xv_val (by omega) ⟨vt, nm_e ⟨va, nm_r hk ?_⟩⟩⟩⟩⟩
  exact br_f (by decide) (br_f (by decide) (br_f (by decide) (br_f (by decide) (br_f (by decide) (br_f (by decide) (br_f (by decide) (br_f (by decide) (br_f (by decide) (br_f (by decide) (br_f (by decide) (br_f (by decide) (br_f (by decide) (br_f (by decide) (br_f (by decide) (br_f (by decide) (br_t rfl ⟨va, h⟩))))))))))))))))
theorem xx_15 {P : SX → Prop} {u : SX} {g j at' : Nat} (hg : g < 12) (j4 : j < 4) (hr : xa_running u = nI g) (hd : xa_depth u g = nI (j + 1)) (hp : xa_position u (4 * g + j) = nI at') (h60 : at' < 60) (hk : xa_kinds u at' = 15) (h : wpX_call P (xs_position u (upd (xa_position u) (4 * g + j) (nI (at' + 1)))) (xa_argA u at') (rl_val (xa_variables u) (4 * g + j) (xa_argB u at')) (rl_val (xa_variables u) (4 * g + j) (xa_argC u at'))) : wpX_execute P u := by
  have ct : (nI (4 * g + j)).toNatClampNeg = 4 * g + j := nI_clamp (by omega)
  have ca : (nI at').toNatClampNeg = at' := nI_clamp (by omega)
  have vt : vp_in (nI (4 * g + j)) 48 := vp_in_nI (by omega) (by decide)
  have va : vp_in (nI at') 60 := vp_in_nI h60 (by decide)
  rw [ux_execute, hr]
  refine xg_topOf (d := j + 1) hg (by omega) hd ?_
  rw [show 4 * g + (j + 1) - 1 = 4 * g + j from rfl, ct]
  refine ⟨vt, nm_r hp ?_⟩
  rw [ca, nI_1]
  refine ⟨va, xv_val (by omega) ⟨va, xv_val (by omega) ⟨va, xv_val (by omega) ⟨vt, nm_e ⟨va, nm_r hk ?_⟩⟩⟩⟩⟩
  exact br_f (by decide) (br_f (by decide) (br_f (by decide) (br_f (by decide) (br_f (by decide) (br_f (by decide) (br_f (by decide) (br_f (by decide) (br_f (by decide) (br_f (by decide) (br_f (by decide) (br_f (by decide) (br_f (by decide) (br_f (by decide) (br_f (by decide) (br_f (by decide) (br_f (by decide) (br_t rfl ⟨va, h⟩)))))))))))))))))
theorem xx_16 {P : SX → Prop} {u : SX} {g j at' : Nat} (hg : g < 12) (j4 : j < 4) (hr : xa_running u = nI g) (hd : xa_depth u g = nI (j + 1)) (hp : xa_position u (4 * g + j) = nI at') (h60 : at' < 60) (hk : xa_kinds u at' = 16) (h : wpX_note P (xs_position u (upd (xa_position u) (4 * g + j) (nI (at' + 1)))) (nI (4 * g + j)) (xa_argA u at') (rl_val (xa_variables u) (4 * g + j) (xa_argB u at')) (rl_val (xa_variables u) (4 * g + j) (xa_argC u at'))) : wpX_execute P u := by
  have ct : (nI (4 * g + j)).toNatClampNeg = 4 * g + j := nI_clamp (by omega)
  have ca : (nI at').toNatClampNeg = at' := nI_clamp (by omega)
  have vt : vp_in (nI (4 * g + j)) 48 := vp_in_nI (by omega) (by decide)
  have va : vp_in (nI at') 60 := vp_in_nI h60 (by decide)
  rw [ux_execute, hr]
  refine xg_topOf (d := j + 1) hg (by omega) hd ?_
  rw [show 4 * g + (j + 1) - 1 = 4 * g + j from rfl, ct]
  refine ⟨vt, nm_r hp ?_⟩
  rw [ca, nI_1]
  refine ⟨va, xv_val (by omega) ⟨va, xv_val (by omega) ⟨va, xv_val (by omega) ⟨vt, nm_e ⟨va, nm_r hk ?_⟩⟩⟩⟩⟩
  exact br_f (by decide) (br_f (by decide) (br_f (by decide) (br_f (by decide) (br_f (by decide) (br_f (by decide) (br_f (by decide) (br_f (by decide) (br_f (by decide) (br_f (by decide) (br_f (by decide) (br_f (by decide) (br_f (by decide) (br_f (by decide) (br_f (by decide) (br_f (by decide) (br_f (by decide) (br_f (by decide) (br_t rfl ⟨va, h⟩))))))))))))))))))
theorem xx_17 {P : SX → Prop} {u : SX} {g j at' : Nat} (hg : g < 12) (j4 : j < 4) (hr : xa_running u = nI g) (hd : xa_depth u g = nI (j + 1)) (hp : xa_position u (4 * g + j) = nI at') (h60 : at' < 60) (hk : xa_kinds u at' = 17) (h : P (xs_mode (xs_position u (upd (xa_position u) (4 * g + j) (nI (at' + 1)))) (upd (xa_mode u) (4 * g + j) 1))) : wpX_execute P u := by
  have ct : (nI (4 * g + j)).toNatClampNeg = 4 * g + j := nI_clamp (by omega)
  have ca : (nI at').toNatClampNeg = at' := nI_clamp (by omega)
  have vt : vp_in (nI (4 * g + j)) 48 := vp_in_nI (by omega) (by decide)
  have va : vp_in (nI at') 60 := vp_in_nI h60 (by decide)
  rw [ux_execute, hr]
  refine xg_topOf (d := j + 1) hg (by omega) hd ?_
  rw [show 4 * g + (j + 1) - 1 = 4 * g + j from rfl, ct]
  refine ⟨vt, nm_r hp ?_⟩
  rw [ca, nI_1]
  refine ⟨va, xv_val (by omega) ⟨va, xv_val (by omega) ⟨va, xv_val (by omega) ⟨vt, nm_e ⟨va, nm_r hk ?_⟩⟩⟩⟩⟩
  exact br_f (by decide) (br_f (by decide) (br_f (by decide) (br_f (by decide) (br_f (by decide) (br_f (by decide) (br_f (by decide) (br_f (by decide) (br_f (by decide) (br_f (by decide) (br_f (by decide) (br_f (by decide) (br_f (by decide) (br_f (by decide) (br_f (by decide) (br_f (by decide) (br_f (by decide) (br_f (by decide) (br_f (by decide) (br_t rfl ⟨vt, nm_e h⟩)))))))))))))))))))
theorem xx_18 {P : SX → Prop} {u : SX} {g j at' : Nat} (hg : g < 12) (j4 : j < 4) (hr : xa_running u = nI g) (hd : xa_depth u g = nI (j + 1)) (hp : xa_position u (4 * g + j) = nI at') (h60 : at' < 60) (hk : xa_kinds u at' = 18) (h : wpX_panic P (xs_position u (upd (xa_position u) (4 * g + j) (nI (at' + 1)))) (nI (4 * g + j)) (rl_val (xa_variables u) (4 * g + j) (xa_argA u at'))) : wpX_execute P u := by
  have ct : (nI (4 * g + j)).toNatClampNeg = 4 * g + j := nI_clamp (by omega)
  have ca : (nI at').toNatClampNeg = at' := nI_clamp (by omega)
  have vt : vp_in (nI (4 * g + j)) 48 := vp_in_nI (by omega) (by decide)
  have va : vp_in (nI at') 60 := vp_in_nI h60 (by decide)
  rw [ux_execute, hr]
  refine xg_topOf (d := j + 1) hg (by omega) hd ?_
  rw [show 4 * g + (j + 1) - 1 = 4 * g + j from rfl, ct]
  refine ⟨vt, nm_r hp ?_⟩
  rw [ca, nI_1]
  refine ⟨va, xv_val (by omega) ⟨va, xv_val (by omega) ⟨va, xv_val (by omega) ⟨vt, nm_e ⟨va, nm_r hk ?_⟩⟩⟩⟩⟩
  exact br_f (by decide) (br_f (by decide) (br_f (by decide) (br_f (by decide) (br_f (by decide) (br_f (by decide) (br_f (by decide) (br_f (by decide) (br_f (by decide) (br_f (by decide) (br_f (by decide) (br_f (by decide) (br_f (by decide) (br_f (by decide) (br_f (by decide) (br_f (by decide) (br_f (by decide) (br_f (by decide) (br_f (by decide) (br_f (by decide) (br_t rfl h))))))))))))))))))))
theorem xx_19 {P : SX → Prop} {u : SX} {g j at' : Nat} (hg : g < 12) (j4 : j < 4) (hr : xa_running u = nI g) (hd : xa_depth u g = nI (j + 1)) (hp : xa_position u (4 * g + j) = nI at') (h60 : at' < 60) (hk : xa_kinds u at' = 19) (h : wpX_recover P (xs_position u (upd (xa_position u) (4 * g + j) (nI (at' + 1)))) (nI (4 * g + j)) (nI at')) : wpX_execute P u := by
  have ct : (nI (4 * g + j)).toNatClampNeg = 4 * g + j := nI_clamp (by omega)
  have ca : (nI at').toNatClampNeg = at' := nI_clamp (by omega)
  have vt : vp_in (nI (4 * g + j)) 48 := vp_in_nI (by omega) (by decide)
  have va : vp_in (nI at') 60 := vp_in_nI h60 (by decide)
  rw [ux_execute, hr]
  refine xg_topOf (d := j + 1) hg (by omega) hd ?_
  rw [show 4 * g + (j + 1) - 1 = 4 * g + j from rfl, ct]
  refine ⟨vt, nm_r hp ?_⟩
  rw [ca, nI_1]
  refine ⟨va, xv_val (by omega) ⟨va, xv_val (by omega) ⟨va, xv_val (by omega) ⟨vt, nm_e ⟨va, nm_r hk ?_⟩⟩⟩⟩⟩
  exact br_f (by decide) (br_f (by decide) (br_f (by decide) (br_f (by decide) (br_f (by decide) (br_f (by decide) (br_f (by decide) (br_f (by decide) (br_f (by decide) (br_f (by decide) (br_f (by decide) (br_f (by decide) (br_f (by decide) (br_f (by decide) (br_f (by decide) (br_f (by decide) (br_f (by decide) (br_f (by decide) (br_f (by decide) (br_f (by decide) (br_f (by decide) (br_t rfl h)))))))))))))))))))))
theorem xx_20 {P : SX → Prop} {u : SX} {g j at' : Nat} (hg : g < 12) (j4 : j < 4) (hr : xa_running u = nI g) (hd : xa_depth u g = nI (j + 1)) (hp : xa_position u (4 * g + j) = nI at') (h60 : at' < 60) (hk : xa_kinds u at' = 20) (h : wpX_print P (xs_position u (upd (xa_position u) (4 * g + j) (nI (at' + 1)))) (rl_val (xa_variables u) (4 * g + j) (xa_argA u at'))) : wpX_execute P u := by
  have ct : (nI (4 * g + j)).toNatClampNeg = 4 * g + j := nI_clamp (by omega)
  have ca : (nI at').toNatClampNeg = at' := nI_clamp (by omega)
  have vt : vp_in (nI (4 * g + j)) 48 := vp_in_nI (by omega) (by decide)
  have va : vp_in (nI at') 60 := vp_in_nI h60 (by decide)
  rw [ux_execute, hr]
  refine xg_topOf (d := j + 1) hg (by omega) hd ?_
  rw [show 4 * g + (j + 1) - 1 = 4 * g + j from rfl, ct]
  refine ⟨vt, nm_r hp ?_⟩
  rw [ca, nI_1]
  refine ⟨va, xv_val (by omega) ⟨va, xv_val (by omega) ⟨va, xv_val (by omega) ⟨vt, nm_e ⟨va, nm_r hk ?_⟩⟩⟩⟩⟩
  exact br_f (by decide) (br_f (by decide) (br_f (by decide) (br_f (by decide) (br_f (by decide) (br_f (by decide) (br_f (by decide) (br_f (by decide) (br_f (by decide) (br_f (by decide) (br_f (by decide) (br_f (by decide) (br_f (by decide) (br_f (by decide) (br_f (by decide) (br_f (by decide) (br_f (by decide) (br_f (by decide) (br_f (by decide) (br_f (by decide) (br_f (by decide) (br_f (by decide) (br_t rfl h))))))))))))))))))))))
theorem xx_21 {P : SX → Prop} {u : SX} {g j at' : Nat} (hg : g < 12) (j4 : j < 4) (hr : xa_running u = nI g) (hd : xa_depth u g = nI (j + 1)) (hp : xa_position u (4 * g + j) = nI at') (h60 : at' < 60) (hk : xa_kinds u at' = 21) (h : wpX_compute P (xs_position u (upd (xa_position u) (4 * g + j) (nI (at' + 1)))) (nI (4 * g + j)) (nI at') (rl_val (xa_variables u) (4 * g + j) (xa_argB u at')) (rl_val (xa_variables u) (4 * g + j) (xa_argC u at'))) : wpX_execute P u := by
  have ct : (nI (4 * g + j)).toNatClampNeg = 4 * g + j := nI_clamp (by omega)
  have ca : (nI at').toNatClampNeg = at' := nI_clamp (by omega)
  have vt : vp_in (nI (4 * g + j)) 48 := vp_in_nI (by omega) (by decide)
  have va : vp_in (nI at') 60 := vp_in_nI h60 (by decide)
  rw [ux_execute, hr]
  refine xg_topOf (d := j + 1) hg (by omega) hd ?_
  rw [show 4 * g + (j + 1) - 1 = 4 * g + j from rfl, ct]
  refine ⟨vt, nm_r hp ?_⟩
  rw [ca, nI_1]
  refine ⟨va, xv_val (by omega) ⟨va, xv_val (by omega) ⟨va, xv_val (by omega) ⟨vt, nm_e ⟨va, nm_r hk ?_⟩⟩⟩⟩⟩
  exact br_f (by decide) (br_f (by decide) (br_f (by decide) (br_f (by decide) (br_f (by decide) (br_f (by decide) (br_f (by decide) (br_f (by decide) (br_f (by decide) (br_f (by decide) (br_f (by decide) (br_f (by decide) (br_f (by decide) (br_f (by decide) (br_f (by decide) (br_f (by decide) (br_f (by decide) (br_f (by decide) (br_f (by decide) (br_f (by decide) (br_f (by decide) (br_f (by decide) (br_f (by decide) (br_t rfl (by rw [ux_execute_406]; exact h))))))))))))))))))))))))
theorem xx_22 {P : SX → Prop} {u : SX} {g j at' : Nat} (hg : g < 12) (j4 : j < 4) (hr : xa_running u = nI g) (hd : xa_depth u g = nI (j + 1)) (hp : xa_position u (4 * g + j) = nI at') (h60 : at' < 60) (hk : xa_kinds u at' = 22) (h : wpX_compute P (xs_position u (upd (xa_position u) (4 * g + j) (nI (at' + 1)))) (nI (4 * g + j)) (nI at') (rl_val (xa_variables u) (4 * g + j) (xa_argB u at')) (rl_val (xa_variables u) (4 * g + j) (xa_argC u at'))) : wpX_execute P u := by
  have ct : (nI (4 * g + j)).toNatClampNeg = 4 * g + j := nI_clamp (by omega)
  have ca : (nI at').toNatClampNeg = at' := nI_clamp (by omega)
  have vt : vp_in (nI (4 * g + j)) 48 := vp_in_nI (by omega) (by decide)
  have va : vp_in (nI at') 60 := vp_in_nI h60 (by decide)
  rw [ux_execute, hr]
  refine xg_topOf (d := j + 1) hg (by omega) hd ?_
  rw [show 4 * g + (j + 1) - 1 = 4 * g + j from rfl, ct]
  refine ⟨vt, nm_r hp ?_⟩
  rw [ca, nI_1]
  refine ⟨va, xv_val (by omega) ⟨va, xv_val (by omega) ⟨va, xv_val (by omega) ⟨vt, nm_e ⟨va, nm_r hk ?_⟩⟩⟩⟩⟩
  exact br_f (by decide) (br_f (by decide) (br_f (by decide) (br_f (by decide) (br_f (by decide) (br_f (by decide) (br_f (by decide) (br_f (by decide) (br_f (by decide) (br_f (by decide) (br_f (by decide) (br_f (by decide) (br_f (by decide) (br_f (by decide) (br_f (by decide) (br_f (by decide) (br_f (by decide) (br_f (by decide) (br_f (by decide) (br_f (by decide) (br_f (by decide) (br_f (by decide) (br_f (by decide) (br_f (by decide) (br_t rfl (by rw [ux_execute_406]; exact h)))))))))))))))))))))))))
theorem xx_23 {P : SX → Prop} {u : SX} {g j at' : Nat} (hg : g < 12) (j4 : j < 4) (hr : xa_running u = nI g) (hd : xa_depth u g = nI (j + 1)) (hp : xa_position u (4 * g + j) = nI at') (h60 : at' < 60) (hk : xa_kinds u at' = 23) (h : wpX_compute P (xs_position u (upd (xa_position u) (4 * g + j) (nI (at' + 1)))) (nI (4 * g + j)) (nI at') (rl_val (xa_variables u) (4 * g + j) (xa_argB u at')) (rl_val (xa_variables u) (4 * g + j) (xa_argC u at'))) : wpX_execute P u := by
  have ct : (nI (4 * g + j)).toNatClampNeg = 4 * g + j := nI_clamp (by omega)
  have ca : (nI at').toNatClampNeg = at' := nI_clamp (by omega)
  have vt : vp_in (nI (4 * g + j)) 48 := vp_in_nI (by omega) (by decide)
  have va : vp_in (nI at') 60 := vp_in_nI h60 (by decide)
  rw [ux_execute, hr]
  refine xg_topOf (d := j + 1) hg (by omega) hd ?_
  rw [show 4 * g + (j + 1) - 1 = 4 * g + j from rfl, ct]
  refine ⟨vt, nm_r hp ?_⟩
  rw [ca, nI_1]
  refine ⟨va, xv_val (by omega) ⟨va, xv_val (by omega) ⟨va, xv_val (by omega) ⟨vt, nm_e ⟨va, nm_r hk ?_⟩⟩⟩⟩⟩
  exact br_f (by decide) (br_f (by decide) (br_f (by decide) (br_f (by decide) (br_f (by decide) (br_f (by decide) (br_f (by decide) (br_f (by decide) (br_f (by decide) (br_f (by decide) (br_f (by decide) (br_f (by decide) (br_f (by decide) (br_f (by decide) (br_f (by decide) (br_f (by decide) (br_f (by decide) (br_f (by decide) (br_f (by decide) (br_f (by decide) (br_f (by decide) (br_f (by decide) (br_f (by decide) (br_f (by decide) (br_f (by decide) (br_t rfl (by rw [ux_execute_406]; exact h))))))))))))))))))))))))))
theorem xx_24 {P : SX → Prop} {u : SX} {g j at' : Nat} (hg : g < 12) (j4 : j < 4) (hr : xa_running u = nI g) (hd : xa_depth u g = nI (j + 1)) (hp : xa_position u (4 * g + j) = nI at') (h60 : at' < 60) (hk : xa_kinds u at' = 24) (h : wpX_compute P (xs_position u (upd (xa_position u) (4 * g + j) (nI (at' + 1)))) (nI (4 * g + j)) (nI at') (rl_val (xa_variables u) (4 * g + j) (xa_argB u at')) (rl_val (xa_variables u) (4 * g + j) (xa_argC u at'))) : wpX_execute P u := by
  have ct : (nI (4 * g + j)).toNatClampNeg = 4 * g + j := nI_clamp (by omega)
  have ca : (nI at').toNatClampNeg = at' := nI_clamp (by omega)
  have vt : vp_in (nI (4 * g + j)) 48 := vp_in_nI (by omega) (by decide)
  have va : vp_in (nI at') 60 := vp_in_nI h60 (by decide)
  rw [ux_execute, hr]
  refine xg_topOf (d := j + 1) hg (by omega) hd ?_
  rw [show 4 * g + (j + 1) - 1 = 4 * g + j from rfl, ct]
  refine ⟨vt, nm_r hp ?_⟩
  rw [ca, nI_1]
  refine ⟨va, xv_val (by omega) ⟨va, xv_val (by omega) ⟨va, xv_val (by omega) ⟨vt, nm_e ⟨va, nm_r hk ?_⟩⟩⟩⟩⟩
  exact br_f (by decide) (br_f (by decide) (br_f (by decide) (br_f (by decide) (br_f (by decide) (br_f (by decide) (br_f (by decide) (br_f (by decide) (br_f (by decide) (br_f (by decide) (br_f (by decide) (br_f (by decide) (br_f (by decide) (br_f (by decide) (br_f (by decide) (br_f (by decide) (br_f (by decide) (br_f (by decide) (br_f (by decide) (br_f (by decide) (br_f (by decide) (br_f (by decide) (br_f (by decide) (br_f (by decide) (br_f (by decide) (br_f (by decide) (br_t rfl (by rw [ux_execute_406]; exact h)))))))))))))))))))))))))))
theorem xx_25 {P : SX → Prop} {u : SX} {g j at' : Nat} (hg : g < 12) (j4 : j < 4) (hr : xa_running u = nI g) (hd : xa_depth u g = nI (j + 1)) (hp : xa_position u (4 * g + j) = nI at') (h60 : at' < 60) (hk : xa_kinds u at' = 25) (h : wpX_compute P (xs_position u (upd (xa_position u) (4 * g + j) (nI (at' + 1)))) (nI (4 * g + j)) (nI at') (rl_val (xa_variables u) (4 * g + j) (xa_argB u at')) (rl_val (xa_variables u) (4 * g + j) (xa_argC u at'))) : wpX_execute P u := by
  have ct : (nI (4 * g + j)).toNatClampNeg = 4 * g + j := nI_clamp (by omega)
  have ca : (nI at').toNatClampNeg = at' := nI_clamp (by omega)
  have vt : vp_in (nI (4 * g + j)) 48 := vp_in_nI (by omega) (by decide)
  have va : vp_in (nI at') 60 := vp_in_nI h60 (by decide)
  rw [ux_execute, hr]
  refine xg_topOf (d := j + 1) hg (by omega) hd ?_
  rw [show 4 * g + (j + 1) - 1 = 4 * g + j from rfl, ct]
  refine ⟨vt, nm_r hp ?_⟩
  rw [ca, nI_1]
  refine ⟨va, xv_val (by omega) ⟨va, xv_val (by omega) ⟨va, xv_val (by omega) ⟨vt, nm_e ⟨va, nm_r hk ?_⟩⟩⟩⟩⟩
  exact br_f (by decide) (br_f (by decide) (br_f (by decide) (br_f (by decide) (br_f (by decide) (br_f (by decide) (br_f (by decide) (br_f (by decide) (br_f (by decide) (br_f (by decide) (br_f (by decide) (br_f (by decide) (br_f (by decide) (br_f (by decide) (br_f (by decide) (br_f (by decide) (br_f (by decide) (br_f (by decide) (br_f (by decide) (br_f (by decide) (br_f (by decide) (br_f (by decide) (br_f (by decide) (br_f (by decide) (br_f (by decide) (br_f (by decide) (br_f (by decide) (br_t rfl (by rw [ux_execute_406]; exact h))))))))))))))))))))))))))))
theorem xx_26 {P : SX → Prop} {u : SX} {g j at' : Nat} (hg : g < 12) (j4 : j < 4) (hr : xa_running u = nI g) (hd : xa_depth u g = nI (j + 1)) (hp : xa_position u (4 * g + j) = nI at') (h60 : at' < 60) (hk : xa_kinds u at' = 26) (h : wpX_compute P (xs_position u (upd (xa_position u) (4 * g + j) (nI (at' + 1)))) (nI (4 * g + j)) (nI at') (rl_val (xa_variables u) (4 * g + j) (xa_argB u at')) (rl_val (xa_variables u) (4 * g + j) (xa_argC u at'))) : wpX_execute P u := by
  have ct : (nI (4 * g + j)).toNatClampNeg = 4 * g + j := nI_clamp (by omega)
  have ca : (nI at').toNatClampNeg = at' := nI_clamp (by omega)
  have vt : vp_in (nI (4 * g + j)) 48 := vp_in_nI (by omega) (by decide)
  have va : vp_in (nI at') 60 := vp_in_nI h60 (by decide)
  rw [ux_execute, hr]
  refine xg_topOf (d := j + 1) hg (by omega) hd ?_
  rw [show 4 * g + (j + 1) - 1 = 4 * g + j from rfl, ct]
  refine ⟨vt, nm_r hp ?_⟩
  rw [ca, nI_1]
  refine ⟨va, xv_val (by omega) ⟨va, xv_val (by omega) ⟨va, xv_val (by omega) ⟨vt, nm_e ⟨va, nm_r hk ?_⟩⟩⟩⟩⟩
  exact br_f (by decide) (br_f (by decide) (br_f (by decide) (br_f (by decide) (br_f (by decide) (br_f (by decide) (br_f (by decide) (br_f (by decide) (br_f (by decide) (br_f (by decide) (br_f (by decide) (br_f (by decide) (br_f (by decide) (br_f (by decide) (br_f (by decide) (br_f (by decide) (br_f (by decide) (br_f (by decide) (br_f (by decide) (br_f (by decide) (br_f (by decide) (br_f (by decide) (br_f (by decide) (br_f (by decide) (br_f (by decide) (br_f (by decide) (br_f (by decide) (br_f (by decide) (br_t rfl (by rw [ux_execute_406]; exact h)))))))))))))))))))))))))))))
theorem xx_27 {P : SX → Prop} {u : SX} {g j at' : Nat} (hg : g < 12) (j4 : j < 4) (hr : xa_running u = nI g) (hd : xa_depth u g = nI (j + 1)) (hp : xa_position u (4 * g + j) = nI at') (h60 : at' < 60) (hk : xa_kinds u at' = 27) (h : wpX_compute P (xs_position u (upd (xa_position u) (4 * g + j) (nI (at' + 1)))) (nI (4 * g + j)) (nI at') (rl_val (xa_variables u) (4 * g + j) (xa_argB u at')) (rl_val (xa_variables u) (4 * g + j) (xa_argC u at'))) : wpX_execute P u := by
  have ct : (nI (4 * g + j)).toNatClampNeg = 4 * g + j := nI_clamp (by omega)
  have ca : (nI at').toNatClampNeg = at' := nI_clamp (by omega)
  have vt : vp_in (nI (4 * g + j)) 48 := vp_in_nI (by omega) (by decide)
  have va : vp_in (nI at') 60 := vp_in_nI h60 (by decide)
  rw [ux_execute, hr]
  refine xg_topOf (d := j + 1) hg (by omega) hd ?_
  rw [show 4 * g + (j + 1) - 1 = 4 * g + j from rfl, ct]
  refine ⟨vt, nm_r hp ?_⟩
  rw [ca, nI_1]
  refine ⟨va, xv_val (by omega) ⟨va, xv_val (by omega) ⟨va, xv_val (by omega) ⟨vt, nm_e ⟨va, nm_r hk ?_⟩⟩⟩⟩⟩
  exact br_f (by decide) (br_f (by decide) (br_f (by decide) (br_f (by decide) (br_f (by decide) (br_f (by decide) (br_f (by decide) (br_f (by decide) (br_f (by decide) (br_f (by decide) (br_f (by decide) (br_f (by decide) (br_f (by decide) (br_f (by decide) (br_f (by decide) (br_f (by decide) (br_f (by decide) (br_f (by decide) (br_f (by decide) (br_f (by decide) (br_f (by decide) (br_f (by decide) (br_f (by decide) (br_f (by decide) (br_f (by decide) (br_f (by decide) (br_f (by decide) (br_f (by decide) (br_f (by decide) (br_t rfl (by rw [ux_execute_406]; exact h))))))))))))))))))))))))))))))
theorem xx_28 {P : SX → Prop} {u : SX} {g j at' : Nat} (hg : g < 12) (j4 : j < 4) (hr : xa_running u = nI g) (hd : xa_depth u g = nI (j + 1)) (hp : xa_position u (4 * g + j) = nI at') (h60 : at' < 60) (hk : xa_kinds u at' = 28) (h : wpX_sleep P (xs_position u (upd (xa_position u) (4 * g + j) (nI (at' + 1)))) (nI (4 * g + j)) (nI at') (rl_val (xa_variables u) (4 * g + j) (xa_argA u at'))) : wpX_execute P u := by
  have ct : (nI (4 * g + j)).toNatClampNeg = 4 * g + j := nI_clamp (by omega)
  have ca : (nI at').toNatClampNeg = at' := nI_clamp (by omega)
  have vt : vp_in (nI (4 * g + j)) 48 := vp_in_nI (by omega) (by decide)
  have va : vp_in (nI at') 60 := vp_in_nI h60 (by decide)
  rw [ux_execute, hr]
  refine xg_topOf (d := j + 1) hg (by omega) hd ?_
  rw [show 4 * g + (j + 1) - 1 = 4 * g + j from rfl, ct]
  refine ⟨vt, nm_r hp ?_⟩
  rw [ca, nI_1]
  refine ⟨va, xv_val (by omega) ⟨va, xv_val (by omega) ⟨va, xv_val (by omega) ⟨vt, nm_e ⟨va, nm_r hk ?_⟩⟩⟩⟩⟩
  exact br_f (by decide) (br_f (by decide) (br_f (by decide) (br_f (by decide) (br_f (by decide) (br_f (by decide) (br_f (by decide) (br_f (by decide) (br_f (by decide) (br_f (by decide) (br_f (by decide) (br_f (by decide) (br_f (by decide) (br_f (by decide) (br_f (by decide) (br_f (by decide) (br_f (by decide) (br_f (by decide) (br_f (by decide) (br_f (by decide) (br_f (by decide) (br_f (by decide) (br_f (by decide) (br_f (by decide) (br_f (by decide) (br_f (by decide) (br_f (by decide) (br_f (by decide) (br_f (by decide) (br_f (by decide) (br_t rfl h))))))))))))))))))))))))))))))
theorem xx_2 {P : SX → Prop} {u : SX} {g j at' : Nat} (hg : g < 12) (j4 : j < 4) (hr : xa_running u = nI g) (hd : xa_depth u g = nI (j + 1)) (hp : xa_position u (4 * g + j) = nI at') (h60 : at' < 60) (hk : xa_kinds u at' = 2) {e : Nat} (he : xa_endOf u at' = nI e) (h1 : ¬ (rl_val (xa_variables u) (4 * g + j) (xa_argA u at')) = 0 → P (xp_at u (4 * g + j) (at' + 1))) (h2 : (rl_val (xa_variables u) (4 * g + j) (xa_argA u at')) = 0 → xa_elseOf u at' = -1 → P (xp_at u (4 * g + j) e)) (h3 : (rl_val (xa_variables u) (4 * g + j) (xa_argA u at')) = 0 → ¬ xa_elseOf u at' = -1 → P (xs_position u (upd (xa_position u) (4 * g + j) (xa_elseOf u at' + 1)))) : wpX_execute P u := by
  have ct : (nI (4 * g + j)).toNatClampNeg = 4 * g + j := nI_clamp (by omega)
  have ca : (nI at').toNatClampNeg = at' := nI_clamp (by omega)
  have vt : vp_in (nI (4 * g + j)) 48 := vp_in_nI (by omega) (by decide)
  have va : vp_in (nI at') 60 := vp_in_nI h60 (by decide)
  rw [ux_execute, hr]
  refine xg_topOf (d := j + 1) hg (by omega) hd ?_
  rw [show 4 * g + (j + 1) - 1 = 4 * g + j from rfl, ct]
  refine ⟨vt, nm_r hp ?_⟩
  rw [ca, nI_1]
  refine ⟨va, xv_val (by omega) ⟨va, xv_val (by omega) ⟨va, xv_val (by omega) ⟨vt, nm_e ⟨va, nm_r hk ?_⟩⟩⟩⟩⟩
  refine br_f (by decide) (br_f (by decide) (br_f (by decide) (br_f (by decide) (br_t rfl (br_c (fun z => ?_) (fun z => ⟨vt, nm_r uu (h1 z)⟩))))))
  rw [ux_otherPartOf, ca]
  refine ⟨va, br_c (fun y => ⟨va, ⟨vt, ?_⟩⟩) (fun y => ⟨va, ⟨vt, nm_r uu (h3 z y)⟩⟩)⟩
  show ∀ a, a = upd (upd (xa_position u) (4 * g + j) (nI (at' + 1))) (4 * g + j) (xa_endOf u at') → P (xs_position u a)
  rw [he]
  exact nm_r uu (h2 z y)
theorem xx_4 {P : SX → Prop} {u : SX} {g j at' : Nat} (hg : g < 12) (j4 : j < 4) (hr : xa_running u = nI g) (hd : xa_depth u g = nI (j + 1)) (hp : xa_position u (4 * g + j) = nI at') (h60 : at' < 60) (hk : xa_kinds u at' = 4) {e : Nat} (he : xa_endOf u at' = nI e) (h1 : ¬ (rl_val (xa_variables u) (4 * g + j) (xa_argA u at')) = 0 → P (xp_at u (4 * g + j) (at' + 1))) (h2 : (rl_val (xa_variables u) (4 * g + j) (xa_argA u at')) = 0 → P (xp_at u (4 * g + j) (e + 1))) : wpX_execute P u := by
  have ct : (nI (4 * g + j)).toNatClampNeg = 4 * g + j := nI_clamp (by omega)
  have ca : (nI at').toNatClampNeg = at' := nI_clamp (by omega)
  have vt : vp_in (nI (4 * g + j)) 48 := vp_in_nI (by omega) (by decide)
  have va : vp_in (nI at') 60 := vp_in_nI h60 (by decide)
  rw [ux_execute, hr]
  refine xg_topOf (d := j + 1) hg (by omega) hd ?_
  rw [show 4 * g + (j + 1) - 1 = 4 * g + j from rfl, ct]
  refine ⟨vt, nm_r hp ?_⟩
  rw [ca, nI_1]
  refine ⟨va, xv_val (by omega) ⟨va, xv_val (by omega) ⟨va, xv_val (by omega) ⟨vt, nm_e ⟨va, nm_r hk ?_⟩⟩⟩⟩⟩
  rw [he, nI_1]
  exact br_f (by decide) (br_f (by decide) (br_f (by decide) (br_f (by decide) (br_f (by decide) (br_f (by decide) (br_t rfl (br_c (fun z => ⟨va, vt, nm_r uu (h2 z)⟩) (fun z => ⟨vt, nm_r uu (h1 z)⟩))))))))
theorem xx_5 {P : SX → Prop} {u : SX} {g j at' : Nat} (hg : g < 12) (j4 : j < 4) (hr : xa_running u = nI g) (hd : xa_depth u g = nI (j + 1)) (hp : xa_position u (4 * g + j) = nI at') (h60 : at' < 60) (hk : xa_kinds u at' = 5) (h : wpX_loopAround (fun r_276 => vp_in r_276 60 ∧ P (xs_position u (upd (xa_position u) (4 * g + j) (xa_endOf u r_276.toNatClampNeg + 1)))) (xs_position u (upd (xa_position u) (4 * g + j) (nI (at' + 1)))) (xa_blockOf u at')) : wpX_execute P u := by
  have ct : (nI (4 * g + j)).toNatClampNeg = 4 * g + j := nI_clamp (by omega)
  have ca : (nI at').toNatClampNeg = at' := nI_clamp (by omega)
  have vt : vp_in (nI (4 * g + j)) 48 := vp_in_nI (by omega) (by decide)
  have va : vp_in (nI at') 60 := vp_in_nI h60 (by decide)
  rw [ux_execute, hr]
  refine xg_topOf (d := j + 1) hg (by omega) hd ?_
  rw [show 4 * g + (j + 1) - 1 = 4 * g + j from rfl, ct]
  refine ⟨vt, nm_r hp ?_⟩
  rw [ca, nI_1]
  refine ⟨va, xv_val (by omega) ⟨va, xv_val (by omega) ⟨va, xv_val (by omega) ⟨vt, nm_e ⟨va, nm_r hk ?_⟩⟩⟩⟩⟩
  have e : (fun r_276 => (vp_in r_276 60 ∧ (vp_in (nI (4 * g + j)) 48 ∧ ∀ a_position_319, a_position_319 = upd (upd (xa_position u) (4 * g + j) (nI (at' + 1))) (4 * g + j) (((xa_endOf u) r_276.toNatClampNeg) + 1) → (P (xs_position u a_position_319))))) = fun r_276 => vp_in r_276 60 ∧ P (xs_position u (upd (xa_position u) (4 * g + j) (xa_endOf u r_276.toNatClampNeg + 1))) := by
    funext r
    rw [uu]
    exact propext ⟨fun z => ⟨z.1, z.2.2 _ rfl⟩, fun z => ⟨z.1, vt, nm_e z.2⟩⟩
  rw [e]
  exact br_f (by decide) (br_f (by decide) (br_f (by decide) (br_f (by decide) (br_f (by decide) (br_f (by decide) (br_f (by decide) (br_t rfl ⟨va, h⟩)))))))
theorem yy_593 {P : SY → Prop} {v : SY} {g at' : Nat} : cy_execute_593 P (nI g) (nI at') v = wpY_goOn P v (nI g) (nI (at' + 1)) := by
  rw [uy_execute_593, nI_1]
theorem yy_593' {P : SY → Prop} {g at' : Nat} : cy_execute_593 P (nI g) (nI at') = fun v => wpY_goOn P v (nI g) (nI (at' + 1)) := by
  funext v
  exact yy_593
theorem yy_0 {P : SY → Prop} {v : SY} {g j at' : Nat} (hg : g < 12) (j4 : j < 4) (hd : ya_depth v g = nI (j + 1)) (h60 : at' < 60) (hk : ya_kind v at' = 0) (h : wpY_plain (fun r_134 u135 => (r_134 = 0 → P u135) ∧ (¬ r_134 = 0 → wpY_goOn P u135 (nI g) (nI (at' + 1)))) v (nI g) (nI at') (rl_val (ya_vars v) (4 * g + j) (ya_opA v at')) (rl_val (ya_vars v) (4 * g + j) (ya_opB v at')) (rl_val (ya_vars v) (4 * g + j) (ya_opC v at'))) : wpY_execute P v (nI g) (nI at') := by
  have ca : (nI at').toNatClampNeg = at' := nI_clamp (by omega)
  have va : vp_in (nI at') 60 := vp_in_nI h60 (by decide)
  rw [uy_execute, ca]
  refine ⟨va, yv_val hg j4 hd ⟨va, yv_val hg j4 hd ⟨va, yv_val hg j4 hd ⟨va, nm_r hk ?_⟩⟩⟩⟩
  exact br_t (by decide) (by rw [uy_execute_578, yy_593']; exact h)
theorem yy_6 {P : SY → Prop} {v : SY} {g j at' : Nat} (hg : g < 12) (j4 : j < 4) (hd : ya_depth v g = nI (j + 1)) (h60 : at' < 60) (hk : ya_kind v at' = 6) (h : wpY_select P v (nI g) (nI at')) : wpY_execute P v (nI g) (nI at') := by
  have ca : (nI at').toNatClampNeg = at' := nI_clamp (by omega)
  have va : vp_in (nI at') 60 := vp_in_nI h60 (by decide)
  rw [uy_execute, ca]
  refine ⟨va, yv_val hg j4 hd ⟨va, yv_val hg j4 hd ⟨va, yv_val hg j4 hd ⟨va, nm_r hk ?_⟩⟩⟩⟩
  exact br_f (by decide) (br_f (by decide) (br_f (by decide) (br_f (by decide) (br_f (by decide) (br_f (by decide) (br_t rfl h))))))
theorem yy_10 {P : SY → Prop} {v : SY} {g j at' : Nat} (hg : g < 12) (j4 : j < 4) (hd : ya_depth v g = nI (j + 1)) (h60 : at' < 60) (hk : ya_kind v at' = 10) (h : wpY_canSend (fun r_654 => (r_654 = 0 → wpY_pause P v (nI g) (-1)) ∧ (¬ r_654 = 0 → wpY_send (fun r_697 u698 => (r_697 = 0 → wpY_panic P u698 (nI g) (-1)) ∧ (¬ r_697 = 0 → wpY_goOn P u698 (nI g) (nI (at' + 1)))) v (rl_val (ya_vars v) (4 * g + j) (ya_opA v at')) (rl_val (ya_vars v) (4 * g + j) (ya_opB v at')))) v (rl_val (ya_vars v) (4 * g + j) (ya_opA v at'))) : wpY_execute P v (nI g) (nI at') := by
  have ca : (nI at').toNatClampNeg = at' := nI_clamp (by omega)
  have va : vp_in (nI at') 60 := vp_in_nI h60 (by decide)
  rw [uy_execute, ca]
  refine ⟨va, yv_val hg j4 hd ⟨va, yv_val hg j4 hd ⟨va, yv_val hg j4 hd ⟨va, nm_r hk ?_⟩⟩⟩⟩
  exact br_f (by decide) (br_f (by decide) (br_f (by decide) (br_f (by decide) (br_f (by decide) (br_f (by decide) (br_f (by decide) (br_f (by decide) (br_f (by decide) (br_f (by decide) (br_t rfl (by rw [nI_1]; exact h)))))))))))
theorem yy_11 {P : SY → Prop} {v : SY} {g j at' : Nat} (hg : g < 12) (j4 : j < 4) (hd : ya_depth v g = nI (j + 1)) (h60 : at' < 60) (hk : ya_kind v at' = 11) (h : wpY_canReceive (fun r_867 => (r_867 = 0 → wpY_pause P v (nI g) (-1)) ∧ (¬ r_867 = 0 → wpY_receive (fun u911 => wpY_goOn P u911 (nI g) (nI (at' + 1))) v (nI g) (nI at') (rl_val (ya_vars v) (4 * g + j) (ya_opB v at')))) v (rl_val (ya_vars v) (4 * g + j) (ya_opB v at'))) : wpY_execute P v (nI g) (nI at') := by
  have ca : (nI at').toNatClampNeg = at' := nI_clamp (by omega)
  have va : vp_in (nI at') 60 := vp_in_nI h60 (by decide)
  rw [uy_execute, ca]
  refine ⟨va, yv_val hg j4 hd ⟨va, yv_val hg j4 hd ⟨va, yv_val hg j4 hd ⟨va, nm_r hk ?_⟩⟩⟩⟩
  exact br_f (by decide) (br_f (by decide) (br_f (by decide) (br_f (by decide) (br_f (by decide) (br_f (by decide) (br_f (by decide) (br_f (by decide) (br_f (by decide) (br_f (by decide) (br_f (by decide) (br_t rfl (by rw [yy_593']; exact h))))))))))))
theorem yy_12 {P : SY → Prop} {v : SY} {g j at' : Nat} (hg : g < 12) (j4 : j < 4) (hd : ya_depth v g = nI (j + 1)) (h60 : at' < 60) (hk : ya_kind v at' = 12) (h : wpY_channelAt (fun r_995 => (r_995 = 0 → wpY_panic P v (nI g) (-1)) ∧ (¬ r_995 = 0 → (vp_in ((rl_val (ya_vars v) (4 * g + j) (ya_opA v at')) - 1) 8 ∧ ((ya_closed v ((rl_val (ya_vars v) (4 * g + j) (ya_opA v at')) - 1).toNatClampNeg = 0 → wpY_close (fun u1083 => wpY_goOn P u1083 (nI g) (nI (at' + 1))) v (rl_val (ya_vars v) (4 * g + j) (ya_opA v at'))) ∧ (¬ ya_closed v ((rl_val (ya_vars v) (4 * g + j) (ya_opA v at')) - 1).toNatClampNeg = 0 → wpY_panic P v (nI g) (-1)))))) v (rl_val (ya_vars v) (4 * g + j) (ya_opA v at'))) : wpY_execute P v (nI g) (nI at') := by
  have ca : (nI at').toNatClampNeg = at' := nI_clamp (by omega)
  have va : vp_in (nI at') 60 := vp_in_nI h60 (by decide)
  rw [uy_execute, ca]
  refine ⟨va, yv_val hg j4 hd ⟨va, yv_val hg j4 hd ⟨va, yv_val hg j4 hd ⟨va, nm_r hk ?_⟩⟩⟩⟩
  exact br_f (by decide) (br_f (by decide) (br_f (by decide) (br_f (by decide) (br_f (by decide) (br_f (by decide) (br_f (by decide) (br_f (by decide) (br_f (by decide) (br_f (by decide) (br_f (by decide) (br_f (by decide) (br_t rfl (by rw [yy_593', uy_execute_391]; exact h)))))))))))))
theorem yy_15 {P : SY → Prop} {v : SY} {g j at' : Nat} (hg : g < 12) (j4 : j < 4) (hd : ya_depth v g = nI (j + 1)) (h60 : at' < 60) (hk : ya_kind v at' = 15) (h : wpY_enter P v (nI g) (ya_opA v at') (rl_val (ya_vars v) (4 * g + j) (ya_opB v at')) (rl_val (ya_vars v) (4 * g + j) (ya_opC v at'))) : wpY_execute P v (nI g) (nI at') := by
  have ca : (nI at').toNatClampNeg = at' := nI_clamp (by omega)
  have va : vp_in (nI at') 60 := vp_in_nI h60 (by decide)
  rw [uy_execute, ca]
  refine ⟨va, yv_val hg j4 hd ⟨va, yv_val hg j4 hd ⟨va, yv_val hg j4 hd ⟨va, nm_r hk ?_⟩⟩⟩⟩
  exact br_f (by decide) (br_f (by decide) (br_f (by decide) (br_f (by decide) (br_f (by decide) (br_f (by decide) (br_f (by decide) (br_f (by decide) (br_f (by decide) (br_f (by decide) (br_f (by decide) (br_f (by decide) (br_f (by decide) (br_f (by decide) (br_f (by decide) (br_t rfl ⟨va, h⟩)))))))))))))))
theorem yy_16 {P : SY → Prop} {v : SY} {g j at' : Nat} (hg : g < 12) (j4 : j < 4) (hd : ya_depth v g = nI (j + 1)) (h60 : at' < 60) (hk : ya_kind v at' = 16) (h : wpY_plain (fun r_134 u135 => (r_134 = 0 → P u135) ∧ (¬ r_134 = 0 → wpY_goOn P u135 (nI g) (nI (at' + 1)))) v (nI g) (nI at') (rl_val (ya_vars v) (4 * g + j) (ya_opA v at')) (rl_val (ya_vars v) (4 * g + j) (ya_opB v at')) (rl_val (ya_vars v) (4 * g + j) (ya_opC v at'))) : wpY_execute P v (nI g) (nI at') := by
  have ca : (nI at').toNatClampNeg = at' := nI_clamp (by omega)
  have va : vp_in (nI at') 60 := vp_in_nI h60 (by decide)
  rw [uy_execute, ca]
  refine ⟨va, yv_val hg j4 hd ⟨va, yv_val hg j4 hd ⟨va, yv_val hg j4 hd ⟨va, nm_r hk ?_⟩⟩⟩⟩
  exact br_f (by decide) (br_f (by decide) (br_f (by decide) (br_f (by decide) (br_f (by decide) (br_f (by decide) (br_f (by decide) (br_f (by decide) (br_f (by decide) (br_f (by decide) (br_f (by decide) (br_f (by decide) (br_f (by decide) (br_f (by decide) (br_f (by decide) (br_f (by decide) (br_t rfl (by rw [uy_execute_578, yy_593']; exact h)))))))))))))))))
theorem yy_17 {P : SY → Prop} {v : SY} {g j at' : Nat} (hg : g < 12) (j4 : j < 4) (hd : ya_depth v g = nI (j + 1)) (h60 : at' < 60) (hk : ya_kind v at' = 17) (h : wpY_leave P v (nI g)) : wpY_execute P v (nI g) (nI at') := by
  have ca : (nI at').toNatClampNeg = at' := nI_clamp (by omega)
  have va : vp_in (nI at') 60 := vp_in_nI h60 (by decide)
  rw [uy_execute, ca]
  refine ⟨va, yv_val hg j4 hd ⟨va, yv_val hg j4 hd ⟨va, yv_val hg j4 hd ⟨va, nm_r hk ?_⟩⟩⟩⟩
  exact br_f (by decide) (br_f (by decide) (br_f (by decide) (br_f (by decide) (br_f (by decide) (br_f (by decide) (br_f (by decide) (br_f (by decide) (br_f (by decide) (br_f (by decide) (br_f (by decide) (br_f (by decide) (br_f (by decide) (br_f (by decide) (br_f (by decide) (br_f (by decide) (br_f (by decide) (br_t rfl h)))))))))))))))))
theorem yy_18 {P : SY → Prop} {v : SY} {g j at' : Nat} (hg : g < 12) (j4 : j < 4) (hd : ya_depth v g = nI (j + 1)) (h60 : at' < 60) (hk : ya_kind v at' = 18) (h : wpY_panic P v (nI g) (rl_val (ya_vars v) (4 * g + j) (ya_opA v at'))) : wpY_execute P v (nI g) (nI at') := by
  have ca : (nI at').toNatClampNeg = at' := nI_clamp (by omega)
  have va : vp_in (nI at') 60 := vp_in_nI h60 (by decide)
  rw [uy_execute, ca]
  refine ⟨va, yv_val hg j4 hd ⟨va, yv_val hg j4 hd ⟨va, yv_val hg j4 hd ⟨va, nm_r hk ?_⟩⟩⟩⟩
  exact br_f (by decide) (br_f (by decide) (br_f (by decide) (br_f (by decide) (br_f (by decide) (br_f (by decide) (br_f (by decide) (br_f (by decide) (br_f (by decide) (br_f (by decide) (br_f (by decide) (br_f (by decide) (br_f (by decide) (br_f (by decide) (br_f (by decide) (br_f (by decide) (br_f (by decide) (br_f (by decide) (br_t rfl h))))))))))))))))))
theorem yy_19 {P : SY → Prop} {v : SY} {g j at' : Nat} (hg : g < 12) (j4 : j < 4) (hd : ya_depth v g = nI (j + 1)) (h60 : at' < 60) (hk : ya_kind v at' = 19) (h : wpY_plain (fun r_134 u135 => (r_134 = 0 → P u135) ∧ (¬ r_134 = 0 → wpY_goOn P u135 (nI g) (nI (at' + 1)))) v (nI g) (nI at') (rl_val (ya_vars v) (4 * g + j) (ya_opA v at')) (rl_val (ya_vars v) (4 * g + j) (ya_opB v at')) (rl_val (ya_vars v) (4 * g + j) (ya_opC v at'))) : wpY_execute P v (nI g) (nI at') := by
  have ca : (nI at').toNatClampNeg = at' := nI_clamp (by omega)
  have va : vp_in (nI at') 60 := vp_in_nI h60 (by decide)
  rw [uy_execute, ca]
  refine ⟨va, yv_val hg j4 hd ⟨va, yv_val hg j4 hd ⟨va, yv_val hg j4 hd ⟨va, nm_r hk ?_⟩⟩⟩⟩
  exact br_f (by decide) (br_f (by decide) (br_f (by decide) (br_f (by decide) (br_f (by decide) (br_f (by decide) (br_f (by decide) (br_f (by decide) (br_f (by decide) (br_f (by decide) (br_f (by decide) (br_f (by decide) (br_f (by decide) (br_f (by decide) (br_f (by decide) (br_f (by decide) (br_f (by decide) (br_f (by decide) (br_f (by decide) (br_t rfl (by rw [uy_execute_578, yy_593']; exact h))))))))))))))))))))
theorem yy_20 {P : SY → Prop} {v : SY} {g j at' : Nat} (hg : g < 12) (j4 : j < 4) (hd : ya_depth v g = nI (j + 1)) (h60 : at' < 60) (hk : ya_kind v at' = 20) (h : wpY_plain (fun r_134 u135 => (r_134 = 0 → P u135) ∧ (¬ r_134 = 0 → wpY_goOn P u135 (nI g) (nI (at' + 1)))) v (nI g) (nI at') (rl_val (ya_vars v) (4 * g + j) (ya_opA v at')) (rl_val (ya_vars v) (4 * g + j) (ya_opB v at')) (rl_val (ya_vars v) (4 * g + j) (ya_opC v at'))) : wpY_execute P v (nI g) (nI at') := by
  have ca : (nI at').toNatClampNeg = at' := nI_clamp (by omega)
  have va : vp_in (nI at') 60 := vp_in_nI h60 (by decide)
  rw [uy_execute, ca]
  refine ⟨va, yv_val hg j4 hd ⟨va, yv_val hg j4 hd ⟨va, yv_val hg j4 hd ⟨va, nm_r hk ?_⟩⟩⟩⟩
  exact br_f (by decide) (br_f (by decide) (br_f (by decide) (br_f (by decide) (br_f (by decide) (br_f (by decide) (br_f (by decide) (br_f (by decide) (br_f (by decide) (br_f (by decide) (br_f (by decide) (br_f (by decide) (br_f (by decide) (br_f (by decide) (br_f (by decide) (br_f (by decide) (br_f (by decide) (br_f (by decide) (br_f (by decide) (br_f (by decide) (br_t rfl (by rw [uy_execute_578, yy_593']; exact h)))))))))))))))))))))
theorem yy_21 {P : SY → Prop} {v : SY} {g j at' : Nat} (hg : g < 12) (j4 : j < 4) (hd : ya_depth v g = nI (j + 1)) (h60 : at' < 60) (hk : ya_kind v at' = 21) (h : wpY_plain (fun r_134 u135 => (r_134 = 0 → P u135) ∧ (¬ r_134 = 0 → wpY_goOn P u135 (nI g) (nI (at' + 1)))) v (nI g) (nI at') (rl_val (ya_vars v) (4 * g + j) (ya_opA v at')) (rl_val (ya_vars v) (4 * g + j) (ya_opB v at')) (rl_val (ya_vars v) (4 * g + j) (ya_opC v at'))) : wpY_execute P v (nI g) (nI at') := by
  have ca : (nI at').toNatClampNeg = at' := nI_clamp (by omega)
  have va : vp_in (nI at') 60 := vp_in_nI h60 (by decide)
  rw [uy_execute, ca]
  refine ⟨va, yv_val hg j4 hd ⟨va, yv_val hg j4 hd ⟨va, yv_val hg j4 hd ⟨va, nm_r hk ?_⟩⟩⟩⟩
  exact br_f (by decide) (br_f (by decide) (br_f (by decide) (br_f (by decide) (br_f (by decide) (br_f (by decide) (br_f (by decide) (br_f (by decide) (br_f (by decide) (br_f (by decide) (br_f (by decide) (br_f (by decide) (br_f (by decide) (br_f (by decide) (br_f (by decide) (br_f (by decide) (br_f (by decide) (br_f (by decide) (br_f (by decide) (br_f (by decide) (br_f (by decide) (br_t rfl (by rw [uy_execute_578, yy_593']; exact h))))))))))))))))))))))
theorem yy_22 {P : SY → Prop} {v : SY} {g j at' : Nat} (hg : g < 12) (j4 : j < 4) (hd : ya_depth v g = nI (j + 1)) (h60 : at' < 60) (hk : ya_kind v at' = 22) (h : wpY_plain (fun r_134 u135 => (r_134 = 0 → P u135) ∧ (¬ r_134 = 0 → wpY_goOn P u135 (nI g) (nI (at' + 1)))) v (nI g) (nI at') (rl_val (ya_vars v) (4 * g + j) (ya_opA v at')) (rl_val (ya_vars v) (4 * g + j) (ya_opB v at')) (rl_val (ya_vars v) (4 * g + j) (ya_opC v at'))) : wpY_execute P v (nI g) (nI at') := by
  have ca : (nI at').toNatClampNeg = at' := nI_clamp (by omega)
  have va : vp_in (nI at') 60 := vp_in_nI h60 (by decide)
  rw [uy_execute, ca]
  refine ⟨va, yv_val hg j4 hd ⟨va, yv_val hg j4 hd ⟨va, yv_val hg j4 hd ⟨va, nm_r hk ?_⟩⟩⟩⟩
  exact br_f (by decide) (br_f (by decide) (br_f (by decide) (br_f (by decide) (br_f (by decide) (br_f (by decide) (br_f (by decide) (br_f (by decide) (br_f (by decide) (br_f (by decide) (br_f (by decide) (br_f (by decide) (br_f (by decide) (br_f (by decide) (br_f (by decide) (br_f (by decide) (br_f (by decide) (br_f (by decide) (br_f (by decide) (br_f (by decide) (br_f (by decide) (br_f (by decide) (br_t rfl (by rw [uy_execute_578, yy_593']; exact h)))))))))))))))))))))))
theorem yy_23 {P : SY → Prop} {v : SY} {g j at' : Nat} (hg : g < 12) (j4 : j < 4) (hd : ya_depth v g = nI (j + 1)) (h60 : at' < 60) (hk : ya_kind v at' = 23) (h : wpY_plain (fun r_134 u135 => (r_134 = 0 → P u135) ∧ (¬ r_134 = 0 → wpY_goOn P u135 (nI g) (nI (at' + 1)))) v (nI g) (nI at') (rl_val (ya_vars v) (4 * g + j) (ya_opA v at')) (rl_val (ya_vars v) (4 * g + j) (ya_opB v at')) (rl_val (ya_vars v) (4 * g + j) (ya_opC v at'))) : wpY_execute P v (nI g) (nI at') := by
  have ca : (nI at').toNatClampNeg = at' := nI_clamp (by omega)
  have va : vp_in (nI at') 60 := vp_in_nI h60 (by decide)
  rw [uy_execute, ca]
  refine ⟨va, yv_val hg j4 hd ⟨va, yv_val hg j4 hd ⟨va, yv_val hg j4 hd ⟨va, nm_r hk ?_⟩⟩⟩⟩
  exact br_f (by decide) (br_f (by decide) (br_f (by decide) (br_f (by decide) (br_f (by decide) (br_f (by decide) (br_f (by decide) (br_f (by decide) (br_f (by decide) (br_f (by decide) (br_f (by decide) (br_f (by decide) (br_f (by decide) (br_f (by decide) (br_f (by decide) (br_f (by decide) (br_f (by decide) (br_f (by decide) (br_f (by decide) (br_f (by decide) (br_f (by decide) (br_f (by decide) (br_f (by decide) (br_t rfl (by rw [uy_execute_578, yy_593']; exact h))))))))))))))))))))))))
theorem yy_24 {P : SY → Prop} {v : SY} {g j at' : Nat} (hg : g < 12) (j4 : j < 4) (hd : ya_depth v g = nI (j + 1)) (h60 : at' < 60) (hk : ya_kind v at' = 24) (h : wpY_plain (fun r_134 u135 => (r_134 = 0 → P u135) ∧ (¬ r_134 = 0 → wpY_goOn P u135 (nI g) (nI (at' + 1)))) v (nI g) (nI at') (rl_val (ya_vars v) (4 * g + j) (ya_opA v at')) (rl_val (ya_vars v) (4 * g + j) (ya_opB v at')) (rl_val (ya_vars v) (4 * g + j) (ya_opC v at'))) : wpY_execute P v (nI g) (nI at') := by
  have ca : (nI at').toNatClampNeg = at' := nI_clamp (by omega)
  have va : vp_in (nI at') 60 := vp_in_nI h60 (by decide)
  rw [uy_execute, ca]
  refine ⟨va, yv_val hg j4 hd ⟨va, yv_val hg j4 hd ⟨va, yv_val hg j4 hd ⟨va, nm_r hk ?_⟩⟩⟩⟩
  exact br_f (by decide) (br_f (by decide) (br_f (by decide) (br_f (by decide) (br_f (by decide) (br_f (by decide) (br_f (by decide) (br_f (by decide) (br_f (by decide) (br_f (by decide) (br_f (by decide) (br_f (by decide) (br_f (by decide) (br_f (by decide) (br_f (by decide) (br_f (by decide) (br_f (by decide) (br_f (by decide) (br_f (by decide) (br_f (by decide) (br_f (by decide) (br_f (by decide) (br_f (by decide) (br_f (by decide) (br_t rfl (by rw [uy_execute_578, yy_593']; exact h)))))))))))))))))))))))))
theorem yy_25 {P : SY → Prop} {v : SY} {g j at' : Nat} (hg : g < 12) (j4 : j < 4) (hd : ya_depth v g = nI (j + 1)) (h60 : at' < 60) (hk : ya_kind v at' = 25) (h : wpY_plain (fun r_134 u135 => (r_134 = 0 → P u135) ∧ (¬ r_134 = 0 → wpY_goOn P u135 (nI g) (nI (at' + 1)))) v (nI g) (nI at') (rl_val (ya_vars v) (4 * g + j) (ya_opA v at')) (rl_val (ya_vars v) (4 * g + j) (ya_opB v at')) (rl_val (ya_vars v) (4 * g + j) (ya_opC v at'))) : wpY_execute P v (nI g) (nI at') := by
  have ca : (nI at').toNatClampNeg = at' := nI_clamp (by omega)
  have va : vp_in (nI at') 60 := vp_in_nI h60 (by decide)
  rw [uy_execute, ca]
  refine ⟨va, yv_val hg j4 hd ⟨va, yv_val hg j4 hd ⟨va, yv_val hg j4 hd ⟨va, nm_r hk ?_⟩⟩⟩⟩
  exact br_f (by decide) (br_f (by decide) (br_f (by decide) (br_f (by decide) (br_f (by decide) (br_f (by decide) (br_f (by decide) (br_f (by decide) (br_f (by decide) (br_f (by decide) (br_f (by decide) (br_f (by decide) (br_f (by decide) (br_f (by decide) (br_f (by decide) (br_f (by decide) (br_f (by decide) (br_f (by decide) (br_f (by decide) (br_f (by decide) (br_f (by decide) (br_f (by decide) (br_f (by decide) (br_f (by decide) (br_f (by decide) (br_t rfl (by rw [uy_execute_578, yy_593']; exact h))))))))))))))))))))))))))
theorem yy_26 {P : SY → Prop} {v : SY} {g j at' : Nat} (hg : g < 12) (j4 : j < 4) (hd : ya_depth v g = nI (j + 1)) (h60 : at' < 60) (hk : ya_kind v at' = 26) (h : wpY_plain (fun r_134 u135 => (r_134 = 0 → P u135) ∧ (¬ r_134 = 0 → wpY_goOn P u135 (nI g) (nI (at' + 1)))) v (nI g) (nI at') (rl_val (ya_vars v) (4 * g + j) (ya_opA v at')) (rl_val (ya_vars v) (4 * g + j) (ya_opB v at')) (rl_val (ya_vars v) (4 * g + j) (ya_opC v at'))) : wpY_execute P v (nI g) (nI at') := by
  have ca : (nI at').toNatClampNeg = at' := nI_clamp (by omega)
  have va : vp_in (nI at') 60 := vp_in_nI h60 (by decide)
  rw [uy_execute, ca]
  refine ⟨va, yv_val hg j4 hd ⟨va, yv_val hg j4 hd ⟨va, yv_val hg j4 hd ⟨va, nm_r hk ?_⟩⟩⟩⟩
  exact br_f (by decide) (br_f (by decide) (br_f (by decide) (br_f (by decide) (br_f (by decide) (br_f (by decide) (br_f (by decide) (br_f (by decide) (br_f (by decide) (br_f (by decide) (br_f (by decide) (br_f (by decide) (br_f (by decide) (br_f (by decide) (br_f (by decide) (br_f (by decide) (br_f (by decide) (br_f (by decide) (br_f (by decide) (br_f (by decide) (br_f (by decide) (br_f (by decide) (br_f (by decide) (br_f (by decide) (br_f (by decide) (br_f (by decide) (br_t rfl (by rw [uy_execute_578, yy_593']; exact h)))))))))))))))))))))))))))
theorem yy_27 {P : SY → Prop} {v : SY} {g j at' : Nat} (hg : g < 12) (j4 : j < 4) (hd : ya_depth v g = nI (j + 1)) (h60 : at' < 60) (hk : ya_kind v at' = 27) (h : wpY_plain (fun r_134 u135 => (r_134 = 0 → P u135) ∧ (¬ r_134 = 0 → wpY_goOn P u135 (nI g) (nI (at' + 1)))) v (nI g) (nI at') (rl_val (ya_vars v) (4 * g + j) (ya_opA v at')) (rl_val (ya_vars v) (4 * g + j) (ya_opB v at')) (rl_val (ya_vars v) (4 * g + j) (ya_opC v at'))) : wpY_execute P v (nI g) (nI at') := by
  have ca : (nI at').toNatClampNeg = at' := nI_clamp (by omega)
  have va : vp_in (nI at') 60 := vp_in_nI h60 (by decide)
  rw [uy_execute, ca]
  refine ⟨va, yv_val hg j4 hd ⟨va, yv_val hg j4 hd ⟨va, yv_val hg j4 hd ⟨va, nm_r hk ?_⟩⟩⟩⟩
  exact br_f (by decide) (br_f (by decide) (br_f (by decide) (br_f (by decide) (br_f (by decide) (br_f (by decide) (br_f (by decide) (br_f (by decide) (br_f (by decide) (br_f (by decide) (br_f (by decide) (br_f (by decide) (br_f (by decide) (br_f (by decide) (br_f (by decide) (br_f (by decide) (br_f (by decide) (br_f (by decide) (br_f (by decide) (br_f (by decide) (br_f (by decide) (br_f (by decide) (br_f (by decide) (br_f (by decide) (br_f (by decide) (br_f (by decide) (br_f (by decide) (br_t rfl (by rw [uy_execute_578, yy_593']; exact h))))))))))))))))))))))))))))
theorem yy_28 {P : SY → Prop} {v : SY} {g j at' : Nat} (hg : g < 12) (j4 : j < 4) (hd : ya_depth v g = nI (j + 1)) (h60 : at' < 60) (hk : ya_kind v at' = 28) (h : ((rl_val (ya_vars v) (4 * g + j) (ya_opA v at')) ≤ 0 → wpY_wake (fun u1449 => P (ys_off u1449 1)) v (nI g) (nI at')) ∧ (¬ (rl_val (ya_vars v) (4 * g + j) (ya_opA v at')) ≤ 0 → wpY_pause P v (nI g) (ya_clock v + (rl_val (ya_vars v) (4 * g + j) (ya_opA v at')).toInt64))) : wpY_execute P v (nI g) (nI at') := by
  have ca : (nI at').toNatClampNeg = at' := nI_clamp (by omega)
  have va : vp_in (nI at') 60 := vp_in_nI h60 (by decide)
  rw [uy_execute, ca]
  refine ⟨va, yv_val hg j4 hd ⟨va, yv_val hg j4 hd ⟨va, yv_val hg j4 hd ⟨va, nm_r hk ?_⟩⟩⟩⟩
  exact br_f (by decide) (br_f (by decide) (br_f (by decide) (br_f (by decide) (br_f (by decide) (br_f (by decide) (br_f (by decide) (br_f (by decide) (br_f (by decide) (br_f (by decide) (br_f (by decide) (br_f (by decide) (br_f (by decide) (br_f (by decide) (br_f (by decide) (br_f (by decide) (br_f (by decide) (br_f (by decide) (br_f (by decide) (br_f (by decide) (br_f (by decide) (br_f (by decide) (br_f (by decide) (br_f (by decide) (br_f (by decide) (br_f (by decide) (br_f (by decide) (br_f (by decide) (br_t rfl h))))))))))))))))))))))))))))
theorem yy_13 {P : SY → Prop} {v : SY} {g j at' : Nat} (hg : g < 12) (j4 : j < 4) (hd : ya_depth v g = nI (j + 1)) (h60 : at' < 60) (hk : ya_kind v at' = 13) {c b p : Nat} (hc : ya_made v = nI c) (c8 : c ≤ 8) (eb : ya_opB v at' = nI b) (b4 : b < 4) (ea : ya_opA v at' = nI p) (p6 : p < 6) (h8 : c = 8 → wpY_panic P v (nI g) (-4)) (h : c < 8 → wpY_goOn P (ys_vars (ys_closed (ys_held (ys_capacity (ys_made v (nI (c + 1))) (upd (ya_capacity v) c (nI b))) (upd (ya_held v) c 0)) (upd (ya_closed v) c 0)) (upd (ya_vars v) (6 * (4 * g + j) + p) (nI (c + 1)))) (nI g) (nI (at' + 1))) : wpY_execute P v (nI g) (nI at') := by
  have ca : (nI at').toNatClampNeg = at' := nI_clamp (by omega)
  have va : vp_in (nI at') 60 := vp_in_nI h60 (by decide)
  rw [uy_execute, ca]
  refine ⟨va, yv_val hg j4 hd ⟨va, yv_val hg j4 hd ⟨va, yv_val hg j4 hd ⟨va, nm_r hk ?_⟩⟩⟩⟩
  refine br_f (by decide) (br_f (by decide) (br_f (by decide) (br_f (by decide) (br_f (by decide) (br_f (by decide) (br_f (by decide) (br_f (by decide) (br_f (by decide) (br_f (by decide) (br_f (by decide) (br_f (by decide) (br_f (by decide) (br_t rfl ?_)))))))))))))
  rw [hc, eb, ea, nI_clamp (show c < 2 ^ 31 by omega), nb_64 b (by omega)]
  refine br_c (fun z => h8 ((nI_eq (b := 8) (by omega) (by decide)).mp z)) (fun z => ?_)
  have lt : c < 8 := by
    rcases Nat.lt_or_ge c 8 with q | q
    · exact q
    · exact absurd (show nI c = 8 by rw [show c = 8 by omega]; rfl) z
  have vc : vp_in (nI c) 8 := vp_in_nI lt (by decide)
  refine ⟨va, vc, nm_e ⟨vc, nm_r (show _ = upd (ya_held v) c 0 from rfl) (nm_r (nI_1 _) ⟨vc, nm_r (show _ = upd (ya_closed v) c 0 from rfl) ⟨va, ys_set (v := ys_closed (ys_held (ys_capacity (ys_made v (nI (c + 1))) (upd (ya_capacity v) c (nI b))) (upd (ya_held v) c 0)) (upd (ya_closed v) c 0)) hg j4 hd p6 ?_⟩⟩)⟩⟩
  rw [yy_593]
  exact h lt
theorem yy_14 {P : SY → Prop} {v : SY} {g j at' : Nat} (hg : g < 12) (j4 : j < 4) (hd : ya_depth v g = nI (j + 1)) (h60 : at' < 60) (hk : ya_kind v at' = 14) (h12 : ya_started v = 12 → wpY_panic P v (nI g) (-2)) (h : ¬ ya_started v = 12 → wpY_start (fun u1223 => wpY_goOn P u1223 (nI g) (nI (at' + 1))) v (ya_opA v at') (rl_val (ya_vars v) (4 * g + j) (ya_opB v at')) (rl_val (ya_vars v) (4 * g + j) (ya_opC v at'))) : wpY_execute P v (nI g) (nI at') := by
  have ca : (nI at').toNatClampNeg = at' := nI_clamp (by omega)
  have va : vp_in (nI at') 60 := vp_in_nI h60 (by decide)
  rw [uy_execute, ca]
  refine ⟨va, yv_val hg j4 hd ⟨va, yv_val hg j4 hd ⟨va, yv_val hg j4 hd ⟨va, nm_r hk ?_⟩⟩⟩⟩
  refine br_f (by decide) (br_f (by decide) (br_f (by decide) (br_f (by decide) (br_f (by decide) (br_f (by decide) (br_f (by decide) (br_f (by decide) (br_f (by decide) (br_f (by decide) (br_f (by decide) (br_f (by decide) (br_f (by decide) (br_f (by decide) (br_t rfl (br_c h12 (fun z => ⟨va, ?_⟩))))))))))))))))
  rw [yy_593']
  exact h z
theorem yy_2 {P : SY → Prop} {v : SY} {g j at' : Nat} (hg : g < 12) (j4 : j < 4) (hd : ya_depth v g = nI (j + 1)) (h60 : at' < 60) (hk : ya_kind v at' = 2) (h : wpY_part (fun r_220 => ((rl_val (ya_vars v) (4 * g + j) (ya_opA v at')) = 0 → ((0 ≤ r_220 → wpY_goOn P v (nI g) (r_220 + 1)) ∧ (¬ 0 ≤ r_220 → wpY_endOf (fun r_306 => wpY_goOn P v (nI g) (r_306 + 1)) v (nI at')))) ∧ (¬ (rl_val (ya_vars v) (4 * g + j) (ya_opA v at')) = 0 → wpY_goOn P v (nI g) (nI (at' + 1)))) v (nI at') (nI at')) : wpY_execute P v (nI g) (nI at') := by
  have ca : (nI at').toNatClampNeg = at' := nI_clamp (by omega)
  have va : vp_in (nI at') 60 := vp_in_nI h60 (by decide)
  rw [uy_execute, ca]
  refine ⟨va, yv_val hg j4 hd ⟨va, yv_val hg j4 hd ⟨va, yv_val hg j4 hd ⟨va, nm_r hk ?_⟩⟩⟩⟩
  rw [nI_1]
  exact br_f (by decide) (br_f (by decide) (br_t rfl h))
theorem yy_4 {P : SY → Prop} {v : SY} {g j at' : Nat} (hg : g < 12) (j4 : j < 4) (hd : ya_depth v g = nI (j + 1)) (h60 : at' < 60) (hk : ya_kind v at' = 4) (h : ((rl_val (ya_vars v) (4 * g + j) (ya_opA v at')) = 0 → wpY_endOf (fun r_351 => wpY_goOn P v (nI g) (r_351 + 1)) v (nI at')) ∧ (¬ (rl_val (ya_vars v) (4 * g + j) (ya_opA v at')) = 0 → wpY_goOn P v (nI g) (nI (at' + 1)))) : wpY_execute P v (nI g) (nI at') := by
  have ca : (nI at').toNatClampNeg = at' := nI_clamp (by omega)
  have va : vp_in (nI at') 60 := vp_in_nI h60 (by decide)
  rw [uy_execute, ca]
  refine ⟨va, yv_val hg j4 hd ⟨va, yv_val hg j4 hd ⟨va, yv_val hg j4 hd ⟨va, nm_r hk ?_⟩⟩⟩⟩
  rw [nI_1]
  exact br_f (by decide) (br_f (by decide) (br_f (by decide) (br_f (by decide) (br_t rfl h))))
theorem yy_5 {P : SY → Prop} {v : SY} {g j at' : Nat} (hg : g < 12) (j4 : j < 4) (hd : ya_depth v g = nI (j + 1)) (h60 : at' < 60) (hk : ya_kind v at' = 5) (h : wpY_opener (fun r_436 => ∃ n249 : Nat, cy_execute_249 P (nI g) v n249 r_436) v (nI at')) : wpY_execute P v (nI g) (nI at') := by
  have ca : (nI at').toNatClampNeg = at' := nI_clamp (by omega)
  have va : vp_in (nI at') 60 := vp_in_nI h60 (by decide)
  rw [uy_execute, ca]
  refine ⟨va, yv_val hg j4 hd ⟨va, yv_val hg j4 hd ⟨va, yv_val hg j4 hd ⟨va, nm_r hk ?_⟩⟩⟩⟩
  exact br_f (by decide) (br_f (by decide) (br_f (by decide) (br_f (by decide) (br_f (by decide) (br_t rfl h)))))
