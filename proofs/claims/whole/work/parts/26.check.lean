/-! check: the start of the program -/
def ck_x0 (u : SX) : SX := xs_depth (xs_status (xs_goroutineCount u (nI 1)) (upd (xa_status u) 0 0)) (upd (xa_depth u) 0 0)
def ck_x1 (u : SX) : SX := xs_slotWish (xs_waitUntil (ck_x0 u) (vp_updL (xa_waitUntil (ck_x0 u)) 0 (-1))) (rl_fw (xa_slotWish (ck_x0 u)) 0)
def ck_x (u : SX) (j p : Nat) : SX := xs_variables (xe_w (ck_x1 u) 0 0 j) (rl_ev (xa_variables (ck_x1 u)) (4 * 0 + 0) p 0 0)
theorem ck_xp {post : Int32 → SX → Prop} {u : SX} {n j p : Nat} (T : sx_st u n) (hg : xa_goroutineCount u = nI 0) (ej : xa_functionLine u 0 = nI j) (hj : j < 60) (ep : xa_argA u j = nI p) (hp : p < 3) (h : post (nI 0) (ck_x u j p)) : wpX_startGoroutine post u (nI 0) 0 0 := by
  rw [ux_startGoroutine, hg]
  refine nm_r (nI_1 _) ⟨vp_in_nI (by decide) (by decide), nm_r (show _ = upd (xa_status u) 0 0 from rfl) ⟨vp_in_nI (by decide) (by decide), nm_r (show _ = upd (xa_depth u) 0 0 from rfl) (xf_forget (u := ck_x0 u) (g := 0) (by decide) ?_)⟩⟩
  exact xe_enter (u := ck_x1 u) (g := 0) (d := 0) (f := 0) (by decide) (by decide) rfl (by decide) ej hj ep hp h
def ck_y (v : SY) (j p : Nat) : SY := ys_queue (ys_status (ys_queued (ye_s (ys_started v (nI 1)) 0 0 j p 0 0) (nI 1)) (upd (ya_status v) 0 1)) (upd (ya_queue v) 0 0)
theorem ck_yp {post : SY → Prop} {v : SY} {n : Nat} (T : sy_st v n) (hg : ya_started v = nI 0) (hd : ya_depth v 0 = nI 0) (hq : ya_queued v = nI 0) (hF : 0 < st_f (ya_kind v) n)
    (h : ∀ j p, j < n → ya_kind v j = 0 → st_f (ya_kind v) j = 0 → ya_opA v j = nI p → p < 3 → post (ck_y v j p)) : wpY_start post v (nI 0) 0 0 := by
  rw [uy_start, hg]
  refine nm_r (nI_1 _) (ye_enter (v := ys_started v (nI 1)) (n := n) (g := 0) (d := 0) (f := 0) T (by decide) (by decide) hd hF (fun j p a b c d e => ?_))
  rw [uy_ready]
  have q0 : ya_queued (ye_s (ys_started v (nI 1)) 0 0 j p 0 0) = nI 0 := hq
  rw [q0]
  exact ⟨vp_in_nI (by decide) (by decide), nm_r (show _ = upd (ya_status v) 0 1 from rfl) (nm_r (nI_1 _) ⟨vp_in_nI (by decide) (by decide), nm_r (show _ = upd (ya_queue v) 0 0 from rfl) (h j p a b c d e)⟩)⟩
theorem ck_rel {k : Nat} {u : SX} {v : SY} {n j p : Nat} (B : rl_base (xs_state u 1) v) (T : sx_st u n) (hc : xa_channelCount u = 0) (hq : xa_queueLength u = 0) (hw : xa_waitsBegun u = 0) (ht : xa_time u = 0) (ho : ya_off v = 0) (hn : ya_now v = 0) (hs : ya_started v = 0)
    (hf : rl_fresh (ya_status v) (ya_depth v) (ya_resume v) (ya_shocked v) 0) (hj : j < n) (kj : xa_kinds u j = 0) : i_Rel k (xs_running (xs_state (ck_x u j p) 1) (nI 0)) (ys_queued (ck_y v j p) 0) := by
  obtain ⟨⟨n', n60, e1, e2, L⟩, B1, B2, B3, B4, B5, B6, B7, B8, B9, B10, B11, B12, B13, B14, B15, B16, B17, B18, B19, B20, B21, B22⟩ := B
  have B1 : ya_kind v = xa_kinds u := B1
  have B2 : ya_opA v = xa_argA u := B2
  have B3 : ya_opB v = xa_argB u := B3
  have B4 : ya_opC v = xa_argC u := B4
  have B5 : ya_bad v = xa_foundLine u := B5
  have B7 : ya_clock v = xa_time u := B7
  have B8 : ya_printed v = xa_outputCount u := B8
  have B9 : ya_out v = xa_outputs u := B9
  have B10 : ya_panicValue v = xa_endingPanic u := B10
  have B11 : ya_made v = xa_channelCount u := B11
  have B12 : ya_capacity v = xa_capacity u := B12
  have B13 : ya_held v = xa_fill u := B13
  have B14 : ya_closed v = xa_closed u := B14
  have B16 : ya_turn v = xa_waitsBegun u := B16
  have B18 : ya_vars v = xa_variables u := B18
  have B19 : ya_noted v = xa_noteCount u := B19
  have B20 : ya_noteOf v = xa_noteFunction u := B20
  have B21 : ya_panicWith v = xa_panicOf u := B21
  have B22 : ya_since v = xa_waitOrder u := B22
  have B6 : ya_state v = 1 := B6
  have e1 : xa_lineCount u = nI n' := e1
  have L : ∀ i, i < n' → ln_ok (xa_kinds u i) (xa_argA u i) (xa_argB u i) (xa_argC u i) := L
  have base : rl_base (xs_running (xs_state (ck_x u j p) 1) (nI 0)) (ys_queued (ck_y v j p) 0) := by
    refine ⟨⟨n', n60, e1, e2, L⟩, B1, B2, B3, B4, B5, B6, B7, B8, B9, B10, B11, B12, B13, B14, rfl, B16, ?_, ?_, ?_, B20, B21, B22⟩
    · exact hq.symm
    · show rl_ev (ya_vars v) _ p 0 0 = rl_ev (xa_variables u) _ p 0 0
      rw [B18]
    · show upd (ya_noted v) _ 0 = upd (xa_noteCount u) _ 0
      rw [B19]
  have md : xa_mode (xs_running (xs_state (ck_x u j p) 1) (nI 0)) 0 = 0 := (pk_us : upd (xa_mode u) 0 0 0 = 0)
  have pn : ya_panics (ys_queued (ck_y v j p) 0) 0 = 0 := (pk_us : upd (ya_panics v) 0 0 0 = 0)
  have dx : xa_depth (xs_running (xs_state (ck_x u j p) 1) (nI 0)) 0 = nI 1 := (pk_us : upd (upd (xa_depth u) 0 0) 0 (nI (0 + 1)) 0 = nI (0 + 1))
  have dy : ya_depth (ys_queued (ck_y v j p) 0) 0 = nI 1 := (pk_us : upd (ya_depth v) 0 (nI (0 + 1)) 0 = nI (0 + 1))
  have sx : xa_status (xs_running (xs_state (ck_x u j p) 1) (nI 0)) 0 = 0 := (pk_us : upd (xa_status u) 0 0 0 = 0)
  have sy : ya_status (ys_queued (ck_y v j p) 0) 0 = 1 := (pk_us : upd (ya_status v) 0 1 0 = 1)
  have px : xa_position (xs_running (xs_state (ck_x u j p) 1) (nI 0)) 0 = nI j := (pk_us : upd (xa_position u) 0 (nI j) 0 = nI j)
  have py : ya_pc (ys_queued (ck_y v j p) 0) 0 = nI j := (pk_us : upd (ya_pc v) 0 (nI j) 0 = nI j)
  have an : ya_asNote (ys_queued (ck_y v j p) 0) 0 = 0 := (pk_us : upd (ya_asNote v) 0 0 0 = 0)
  have nc : xa_noteCount (xs_running (xs_state (ck_x u j p) 1) (nI 0)) 0 = nI 0 := (pk_us : upd (xa_noteCount u) 0 0 0 = 0)
  have wu : xa_waitUntil (xs_running (xs_state (ck_x u j p) 1) (nI 0)) 0 = -1 := (pk_uLs : vp_updL (xa_waitUntil u) 0 (-1) 0 = -1)
  have T' : sx_st (xs_running (xs_state (ck_x u j p) 1) (nI 0)) n := T
  have f0 := hf 0 (Nat.le_refl _) (by decide)
  refine ⟨base, ⟨1, 0, by decide, rfl, by decide, hc, fun g hg => ?_⟩, fun _ => ?_⟩
  · have g0 : g = 0 := by omega
    subst g0
    refine ⟨1, by decide, dx, dy, Or.inr (Or.inr ⟨Or.inl sx, sy⟩), fun i hi => ?_⟩
    have i0 : i = 0 := by omega
    subst i0
    show xa_mode (xs_running (xs_state (ck_x u j p) 1) (nI 0)) 0 = 2 ↔ ¬ ya_panics (ys_queued (ck_y v j p) 0) 0 = 0
    rw [md, pn]; decide
  · refine ⟨n, 1, 0, 1, j, ⟨⟨base, T', by decide, by decide, rfl, fun g h1 h2 => ?_, ⟨0, by decide, hc, fun i hi => by omega⟩, ⟨[], List.nodup_nil, hq, fun i hi => absurd hi (Nat.not_lt_zero _), fun g => ?_⟩, ⟨0, 0, by omega, hw, by omega, ht⟩, fun g hg hr => ?_⟩, by decide, rfl, hn, ho, ?_⟩, md, pn, hj, px, py, ?_⟩
    · obtain ⟨a, b, c, d⟩ := hf g (by omega) h2
      refine ⟨?_, ?_, c, d⟩
      · show upd (ya_status v) 0 1 g = 0
        rw [pk_un (by omega)]; exact a
      · show upd (ya_depth v) 0 (nI (0 + 1)) g = 0
        rw [pk_un (by omega)]; exact b
    · constructor
      · intro h; cases h
      · rintro ⟨a, _, c⟩
        exact absurd (by rw [show g = 0 by omega]) c
    · exact absurd (by rw [show g = 0 by omega]) hr
    · refine ⟨by decide, by decide, dx, dy, ⟨an, fun i hi => by omega⟩, fun i hi => ⟨0, by decide, ?_, fun q hq => by omega⟩, sx, sy, f0.2.2.1, f0.2.2.2, ⟨?_, fun i hi => ?_⟩⟩
      · have i0 : i = 0 := by omega
        subst i0
        exact nc
      · exact wu
      · show rl_fw (xa_slotWish u) 0 (3 * 0 + i) = 0
        unfold rl_fw
        rw [if_pos (by omega)]
    · show ¬ st_mk (xa_kinds u j)
      rw [kj]; decide
