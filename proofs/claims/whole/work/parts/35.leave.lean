/-! coming to a line; leaving an activation -/
theorem sy_bs {u : SX} {v : SY} {n : Nat} (B : rl_base u v) (T : sx_st u n) : sy_st v n := by
  obtain ⟨⟨n', n60, e1, e2, L⟩, B1, B2, B3, B4, _⟩ := B
  obtain ⟨t1, t2, t3, t4, t5, t6, t7⟩ := T
  unfold sy_st
  rw [B1, B2, B3, B4]
  refine ⟨e2.trans (e1.symm.trans t1), t2, t3, t4, t6, ?_, ?_⟩
  · rw [← t5.2.2.2.2.1]; exact t7
  · have := t5.2.2.2.2.2
    rw [if_pos t2.2.1] at this
    have := t2.1
    omega
theorem go_core {W : Nat} {u : SX} {v : SY} {n S g j p : Nat} (H : rl_mid W u v n S g (j + 1)) (s : xa_state u = 1) (hm : xa_mode u (4 * g + j) = 0) (hp : ya_panics v (4 * g + j) = 0) (hx : xa_position u (4 * g + j) = nI p) (pn : p < n) :
    ∃ k u1, k ≤ 121 ∧ mv k u u1 ∧ xa_state u1 = 1 ∧ st_ch (xa_kinds u) n p < n ∧ ((¬ xa_kinds u (st_ch (xa_kinds u) n p) = 1 ∧ rl_rest W u1 (ys_pc v (upd (ya_pc v) (4 * g + j) (nI (st_ch (xa_kinds u) n p))))) ∨ (xa_kinds u (st_ch (xa_kinds u) n p) = 1 ∧ rl_mid W u1 (ys_pc v (upd (ya_pc v) (4 * g + j) (nI (st_ch (xa_kinds u) n p)))) n S g (j + 1) ∧ xa_mode u1 (4 * g + j) = 1)) := by
  have T := H.1.2.1
  have n60 := T.2.1.1
  have xr := mid_xr H s
  have ht : 4 * g + j < 48 := (mid_t H).1
  obtain ⟨k, k1, k2⟩ := xm_go T xr hm n p pn (by omega)
  have k2 : mv k (xp_at u (4 * g + j) p) (xp_at u (4 * g + j) (st_ch (xa_kinds u) n p)) := k2
  rw [xp_ai hx] at k2
  obtain ⟨c1, c2⟩ := st_ch_ok T.2.1 n p pn (by omega)
  have H2 : rl_mid W (xp_at u (4 * g + j) (st_ch (xa_kinds u) n p)) (ys_pc v (upd (ya_pc v) (4 * g + j) (nI (st_ch (xa_kinds u) n p)))) n S g (j + 1) := mid_pc (mid_pos H)
  have pos : xa_position (xp_at u (4 * g + j) (st_ch (xa_kinds u) n p)) (4 * g + j) = nI (st_ch (xa_kinds u) n p) := (pk_us : upd (xa_position u) (4 * g + j) (nI (st_ch (xa_kinds u) n p)) (4 * g + j) = _)
  by_cases e : xa_kinds u (st_ch (xa_kinds u) n p) = 1
  · have c3 : ∃ o r, st_s (xa_kinds u) (st_ch (xa_kinds u) n p) = o :: r ∧ xa_kinds u o = 0 := by
      rcases c2 with z | z
      · exact absurd (Or.inl e) z
      · exact z.2
    obtain ⟨o, r, e1, e2⟩ := c3
    refine ⟨k + 1, xs_mode (xp_at u (4 * g + j) (st_ch (xa_kinds u) n p)) (upd (xa_mode u) (4 * g + j) 1), by omega, mv_t k2 (mv_on (g := g) (d := j + 1) (xr_at xr) hm (fun Q q => xmo_e (sx_at T) ht pos c1 e e1 (fun _ => q) (fun z => absurd (e2.symm.trans z) (by decide)) (fun z _ => absurd e2 z))), s, c1, Or.inr ⟨e, mid_mode H2, ?_⟩⟩
    exact (pk_us : upd (xa_mode u) (4 * g + j) 1 (4 * g + j) = 1)
  · refine ⟨k, xp_at u (4 * g + j) (st_ch (xa_kinds u) n p), by omega, k2, s, c1, Or.inl ⟨e, n, S, g, j + 1, _, H2, hm, hp, c1, pos, ?_, ?_⟩⟩
    · exact (pk_us : upd (ya_pc v) (4 * g + j) (nI (st_ch (xa_kinds u) n p)) (4 * g + j) = _)
    · rcases c2 with z | z
      · exact z
      · exact absurd z.1 e
theorem st_nx {K : Nat → Int32} {n i : Nat} (W : st_wf K n) (hi : i < n) (h : ¬ K i = 1) : i + 1 < n := by
  obtain ⟨_, Z, F, _⟩ := W
  by_cases e : i + 1 = n
  · rw [← e] at Z
    by_cases o : st_op (K i)
    · rw [st_opn o] at Z; cases Z
    · rw [st_oth h o] at Z
      exact absurd (Or.inl ((F i hi).mpr Z)) o
  · omega
theorem xl_pop {Q : SX → Prop} {u : SX} {g j : Nat} (hg : g < 12) (hj : j + 2 ≤ 4) (hr : xa_running u = nI g) (hd : xa_depth u g = nI (j + 2)) (hn : xa_noteCount u (4 * g + j + 1) = nI 0)
    (h2 : xa_mode u (4 * g + j + 1) = 2 → Q (xs_panicOf (xs_mode (xs_depth u (upd (xa_depth u) g (nI (j + 1)))) (upd (xa_mode u) (4 * g + j) 2)) (upd (xa_panicOf u) (4 * g + j) (xa_panicOf u (4 * g + j + 1)))))
    (h1 : ¬ xa_mode u (4 * g + j + 1) = 2 → Q (xs_depth u (upd (xa_depth u) g (nI (j + 1))))) : wpX_leave Q u (nI (4 * g + j + 1)) := by
  have vg : vp_in (nI g) 12 := vp_in_nI hg (by decide)
  have vt : vp_in (nI (4 * g + j + 1)) 48 := vp_in_nI (by omega) (by decide)
  rw [ux_leave, hr, nI_clamp (show g < 2 ^ 31 by omega), nI_clamp (show 4 * g + j + 1 < 2 ^ 31 by omega), hn, hd, nI_p]
  refine ⟨vt, br_t (by decide) ⟨vg, vg, nm_e ⟨vg, ?_⟩⟩⟩
  rw [pk_us]
  refine br_f (nI_ne0 (by omega) (by omega)) ⟨vt, br_c (fun z => ⟨vt, ?_⟩) h1⟩
  rw [nI_p]
  exact xp_panic (by omega) (h2 z)
theorem xl_fin {Q : SX → Prop} {u : SX} {g : Nat} (hg : g < 12) (hr : xa_running u = nI g) (hd : xa_depth u g = nI 1) (hn : xa_noteCount u (4 * g) = nI 0)
    (h3 : xa_mode u (4 * g) = 2 → Q (xs_status (xs_running (xs_endingPanic (xs_state (xs_depth u (upd (xa_depth u) g (nI 0))) 3) (xa_panicOf u (4 * g))) (-1)) (upd (xa_status u) g 3)))
    (h2 : ¬ xa_mode u (4 * g) = 2 → g = 0 → Q (xs_status (xs_running (xs_state (xs_depth u (upd (xa_depth u) g (nI 0))) 2) (-1)) (upd (xa_status u) g 3)))
    (h1 : ¬ xa_mode u (4 * g) = 2 → ¬ g = 0 → Q (xs_status (xs_running (xs_depth u (upd (xa_depth u) g (nI 0))) (-1)) (upd (xa_status u) g 3))) : wpX_leave Q u (nI (4 * g)) := by
  have vg : vp_in (nI g) 12 := vp_in_nI hg (by decide)
  have cg : (nI g).toNatClampNeg = g := nI_clamp (by omega)
  have vt : vp_in (nI (4 * g)) 48 := vp_in_nI (by omega) (by decide)
  have ct : (nI (4 * g)).toNatClampNeg = 4 * g := nI_clamp (by omega)
  rw [ux_leave, hr, cg, ct, hn, hd, show nI 1 - 1 = nI 0 from rfl]
  refine ⟨vt, br_t (by decide) ⟨vg, vg, nm_e ⟨vg, ?_⟩⟩⟩
  rw [pk_us, ux_endGoroutine, cg, ct]
  refine br_t rfl ⟨vg, nm_e ⟨vt, br_c (fun z => ⟨vt, nm_e (h3 z)⟩) (fun z => br_c (fun y => h2 z ?_) (fun y => h1 z ?_))⟩⟩
  · exact (nI_eq (b := 0) (by omega) (by decide)).mp y
  · intro q; exact y (by rw [q]; rfl)
theorem yl_fin {P : SY → Prop} {v : SY} {g c m : Nat} (hg : g < 12) (hc : c < 10) (hd : ya_depth v g = nI 1) (hn : ya_noted v (4 * g) = nI 0)
    (h3 : ¬ ya_panics v (4 * g) = 0 → P (ys_status (ys_panicValue (ys_off (ys_state (ys_depth v (upd (ya_depth v) g (nI 0))) 3) 1) (ya_panicWith v (4 * g))) (upd (ya_status v) g 3)))
    (h2 : ya_panics v (4 * g) = 0 → g = 0 → P (ys_status (ys_off (ys_state (ys_depth v (upd (ya_depth v) g (nI 0))) 2) 1) (upd (ya_status v) g 3)))
    (h1 : ya_panics v (4 * g) = 0 → ¬ g = 0 → P (ys_status (ys_off (ys_depth v (upd (ya_depth v) g (nI 0))) 1) (upd (ya_status v) g 3))) : cy_leave_2 P (nI g) (m + 1) (nI c) v := by
  have vg : vp_in (nI g) 12 := vp_in_nI hg (by decide)
  have cg : (nI g).toNatClampNeg = g := nI_clamp (by omega)
  have vt : vp_in (nI (4 * g)) 48 := vp_in_nI (by omega) (by decide)
  have ct : (nI (4 * g)).toNatClampNeg = 4 * g := nI_clamp (by omega)
  rw [uy_leave_2, cg, hd, show vp_nar .byte ((nI 1 - 1).toInt8.toInt32) = nI 0 by decide]
  refine br_f (nI_ge (b := 10) hc (by decide)) (yg_topOf (d := 1) hg (by decide) hd ?_)
  rw [show 4 * g + 1 - 1 = 4 * g from rfl, ct, hn]
  refine ⟨vt, br_t (by decide) ⟨vg, vg, nm_e ⟨vg, ?_⟩⟩⟩
  rw [pk_us]
  refine br_t rfl ?_
  rw [uy_finish, cg, ct]
  refine ⟨vg, nm_r (show _ = upd (ya_status v) g 3 from rfl) ⟨vt, br_c (fun z => br_c (fun y => h2 z ?_) (fun y => h1 z ?_)) (fun z => ⟨vt, nm_e (h3 z)⟩)⟩⟩
  · exact (nI_eq (b := 0) (by omega) (by decide)).mp y
  · intro q; exact y (by rw [q]; rfl)
theorem yl_pop {P : SY → Prop} {v : SY} {n g j c m : Nat} (T : sy_st v n) (hg : g < 12) (hj : j + 2 ≤ 4) (hc : c < 10) (hd : ya_depth v g = nI (j + 2)) (hn : ya_noted v (4 * g + j + 1) = nI 0)
    (hp : ¬ ya_panics v (4 * g + j + 1) = 0 → cy_leave_2 P (nI g) m (nI (c + 1)) (ys_panicWith (ys_panics (ys_depth v (upd (ya_depth v) g (nI (j + 1)))) (upd (ya_panics v) (4 * g + j) 1)) (upd (ya_panicWith v) (4 * g + j) (ya_panicWith v (4 * g + j + 1)))))
    (ha : ya_panics v (4 * g + j + 1) = 0 → ¬ ya_asNote v (4 * g + j + 1) = 0 → cy_leave_2 P (nI g) m (nI (c + 1)) (ys_depth v (upd (ya_depth v) g (nI (j + 1)))))
    (hr : ya_panics v (4 * g + j + 1) = 0 → ya_asNote v (4 * g + j + 1) = 0 → ∃ p, p + 1 < n ∧ ya_pc v (4 * g + j) = nI p ∧ st_ch (ya_kind v) n (p + 1) < n ∧
      (ya_kind v (st_ch (ya_kind v) n (p + 1)) = 1 → cy_leave_2 P (nI g) m (nI (c + 1)) (ys_pc (ys_depth v (upd (ya_depth v) g (nI (j + 1)))) (upd (ya_pc v) (4 * g + j) (nI (st_ch (ya_kind v) n (p + 1)))))) ∧
      (¬ ya_kind v (st_ch (ya_kind v) n (p + 1)) = 1 → P (ys_pc (ys_depth v (upd (ya_depth v) g (nI (j + 1)))) (upd (ya_pc v) (4 * g + j) (nI (st_ch (ya_kind v) n (p + 1))))))) : cy_leave_2 P (nI g) (m + 1) (nI c) v := by
  have vg : vp_in (nI g) 12 := vp_in_nI hg (by decide)
  have cg : (nI g).toNatClampNeg = g := nI_clamp (by omega)
  have vt : vp_in (nI (4 * g + j + 1)) 48 := vp_in_nI (by omega) (by decide)
  have ct : (nI (4 * g + j + 1)).toNatClampNeg = 4 * g + j + 1 := nI_clamp (by omega)
  have vs : vp_in (nI (4 * g + j)) 48 := vp_in_nI (by omega) (by decide)
  have cs : (nI (4 * g + j)).toNatClampNeg = 4 * g + j := nI_clamp (by omega)
  have n60 := T.2.1.1
  rw [uy_leave_2, cg, hd, nI_p, nb_64 (j + 1) (by omega)]
  refine br_f (nI_ge (b := 10) hc (by decide)) (yg_topOf (d := j + 2) hg (by omega) hd ?_)
  rw [show 4 * g + (j + 2) - 1 = 4 * g + j + 1 from rfl, ct, nI_p, cs, hn]
  refine ⟨vt, br_t (by decide) ⟨vg, vg, nm_e ⟨vg, ?_⟩⟩⟩
  rw [pk_us]
  refine br_f (nI_ne0 (by omega) (by omega)) ⟨vt, br_c (fun z => ⟨vt, br_c (fun y => ⟨vs, ?_⟩) (fun y => nm_r (nI_1 _) (ha z y))⟩) (fun z => ⟨vs, nm_r (show _ = upd (ya_panics v) (4 * g + j) 1 from rfl) ⟨vt, vs, nm_e (nm_r (nI_1 _) (hp z))⟩⟩)⟩
  obtain ⟨p, p1, p2, p3, p4, p5⟩ := hr z y
  rw [p2, nI_1 p]
  refine ye_settle (v := ys_depth v (upd (ya_depth v) g (nI (j + 1)))) (n := n) T.1 T.2.1 p1 ⟨vs, nm_r (show _ = upd (ya_pc v) (4 * g + j) (nI (st_ch (ya_kind v) n (p + 1))) from congrArg (fun z => upd (ya_pc v) (4 * g + j) z) (nb_64 (st_ch (ya_kind v) n (p + 1)) (by omega))) ⟨vs, ?_⟩⟩
  rw [pk_us, nI_clamp (show st_ch (ya_kind v) n (p + 1) < 2 ^ 31 by omega)]
  exact ⟨vp_in_nI (by omega) (by decide), br_c (fun q => nm_r (nI_1 _) (p4 q)) p5⟩
