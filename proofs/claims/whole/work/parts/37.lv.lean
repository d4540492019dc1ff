/-! an activation is left: both -/
theorem tm_fr {W : Nat} {u u' : SX} (t : rl_tm W u) (a : xa_waitsBegun u' = xb_waitsBegun u) (b : xa_time u' = xb_time u) : rl_tm W u' := by
  unfold rl_tm
  rw [a, b]
  exact t
theorem lv_note {W : Nat} {u : SX} {v : SY} {n S g j c cc : Nat} (H : rl_mid W u v n S g (j + 1)) (s : xa_state u = 1) (hm : (xa_mode u (4 * g + j) = 1 ∧ ya_panics v (4 * g + j) = 0) ∨ (xa_mode u (4 * g + j) = 2 ∧ ya_panics v (4 * g + j) = 1)) (hn : xa_noteCount u (4 * g + j) = nI (c + 1)) (c3 : c < 3) (hc : cc < 10) :
    ∃ k u' v', k ≤ 1 ∧ mv k u u' ∧ (∀ (P : SY → Prop) m, P v' → cy_leave_2 P (nI g) (m + 1) (nI cc) v) ∧ rl_out W (ya_status v) g u' v' := by
  obtain ⟨m1, m2, m3, m4, m5, m6, m7, m8, m9, m10, m11⟩ := id H.2.2.2.2.2
  obtain ⟨L0, B1, B2, B3, B4, B5, B6, B7, B8, B9, B10, B11, B12, B13, B14, B15, B16, B17, B18, B19, B20, B21, B22⟩ := id H.1.1
  have T := H.1.2.1
  have TY := sy_bs H.1.1 T
  have hg := (mid_t H).2
  have hr := H.2.2.1
  have n60 := T.2.1.1
  have m0 : ¬ xa_mode u (4 * g + j) = 0 := by
    rcases hm with ⟨z, _⟩ | ⟨z, _⟩ <;> (rw [z]; decide)
  have hnY : ya_noted v (4 * g + j) = nI (c + 1) := by rw [B19]; exact hn
  obtain ⟨c', c1, c2, c4⟩ := m6 j (by omega)
  rw [hn] at c2
  have cc' : c + 1 = c' := (nI_eq (by omega) (by omega)).mp c2
  obtain ⟨⟨f, f30, f1, f2⟩, nB, nC⟩ := c4 c (by omega)
  have fc : xa_functionCount u = nI (st_f (xa_kinds u) n) := T.2.2.2.2.1.2.2.2.2.1
  have F30 : st_f (ya_kind v) n ≤ 30 := TY.2.2.2.2.2.2
  rw [B1] at F30
  rw [fc] at f1
  have hf : f < st_f (xa_kinds u) n := (nI_ltI (by omega) (by omega)).mp f1
  have f2Y : ya_noteOf v (3 * (4 * g + j) + c) = nI f := by rw [B20]; exact f2
  by_cases d4 : j + 1 = 4
  · obtain ⟨C0, C1, C2, C3, C4, C5, C6, C7, C8, C9, C10, C11, C12, C13, C14, C15, C16, C17, C18, C19, C20, C21, C22⟩ := bs_b H.1.1
    refine ⟨1, xs_state u 5, ys_state v 5, by omega, mv_lv (mid_xr H s) m0 (fun Q q => xl_over hg d4 hr m3 hn c3 q), fun P m p => yl_nt hg (by omega) hc m4 hnY c3 f2Y rfl rfl (ye_over hg (by rw [m4, d4]) (br_f (by show ¬ (5 : Int32) = 1; decide) p)), Or.inr (Or.inr ⟨⟨C0, C1, C2, C3, C4, C5, rfl, C7, C8, C9, C10, C11, C12, C13, C14, C15, C16, C17, C18, C19, C20, C21, C22⟩, ?_, by show ¬ (5 : Int32) = 1; decide⟩)⟩
    refine ob_mid H rfl rfl (fun g1 h1 => ⟨rfl, rfl, rfl, fr_er, fr_er, fr_er, fr_er, fr_er, fr_er, fr_er, fr_er⟩) (fun g1 h1 => ⟨rfl, rfl, rfl, rfl, rfl, rfl, fr_er, fr_er, fr_er, fr_er, fr_er⟩) (og_fr ⟨rfl, rfl, rfl, fr_er, fr_er, fr_er, fr_er, fr_er, fr_er, fr_er, fr_er⟩ ⟨rfl, rfl, rfl, rfl, rfl, rfl, fr_er, fr_er, fr_er, fr_er, fr_er⟩ (og_me H.2.2.2.2.2 ?_))
    show xa_mode u (4 * g + j) = 2 ↔ ¬ ya_panics v (4 * g + j) = 0
    rcases hm with ⟨z, y⟩ | ⟨z, y⟩ <;> (rw [z, y]; decide)
  · have hj : j + 1 < 4 := by omega
    obtain ⟨q, q1, q2, q3⟩ := st_fl_ex n hf
    obtain ⟨p, p3, ep⟩ := (T.2.2.2.2.2.1 q q1).2.1 q2
    have fl : xa_functionLine u f = nI q := by
      have := T.2.2.2.2.1.2.2.2.1 q q1 q2
      rw [q3] at this; exact this
    refine ⟨1, xs_variables (xe_w (xs_noteCount u (upd (xa_noteCount u) (4 * g + j) (nI c))) g (j + 1) q) (rl_ev (xa_variables u) (4 * g + (j + 1)) p (ya_noteB v (3 * (4 * g + j) + c)) (ya_noteC v (3 * (4 * g + j) + c))),
      ys_asNote (ye_s (ys_noted v (upd (ya_noted v) (4 * g + j) (nI c))) g (j + 1) q p (ya_noteB v (3 * (4 * g + j) + c)) (ya_noteC v (3 * (4 * g + j) + c))) (upd (upd (ya_asNote v) (4 * g + (j + 1)) 0) (4 * g + (j + 1)) 1), by omega,
      mv_lv (mid_xr H s) m0 (fun Q qq => xl_note hg hj hr m3 hn c3 f2 f30 fl (by omega) ep p3 (by rw [nB, nC]; exact qq)), fun P m pp => ?_, Or.inl ⟨?_, s⟩⟩
    · refine yl_note TY hg hj hc (by rw [B6]; exact s) m4 hnY c3 f2Y (by rw [B1]; exact hf) (fun q' p' a1 a2 a3 a4 a5 => ?_)
      rw [B1] at a2 a3
      rw [B2] at a4
      have qq : q' = q := (st_fl_eq a2 a3 n a1).symm.trans (st_fl_eq q2 q3 n q1)
      subst qq
      rw [ep] at a4
      have : p = p' := (nI_eq (by omega) (by omega)).mp a4
      subst this
      exact pp
    · refine ⟨n, S, g, j + 2, q, mid_push (mid_dec H hn c3) hj (pk_us : upd (upd (ya_asNote v) (4 * g + (j + 1)) 0) (4 * g + (j + 1)) 1 (4 * g + (j + 1)) = 1) (fun i hi => ?_) (Or.inr ⟨rfl, hm⟩), ?_, ?_, q1, ?_, ?_, ?_⟩
      · show upd (upd (ya_asNote v) (4 * g + (j + 1)) 0) (4 * g + (j + 1)) 1 i = ya_asNote v i
        rw [pk_un (show ¬ i = 4 * g + (j + 1) from hi), pk_un (show ¬ i = 4 * g + (j + 1) from hi)]
      · exact (pk_us : upd (xa_mode u) (4 * g + (j + 1)) 0 (4 * g + (j + 1)) = 0)
      · exact (pk_us : upd (ya_panics v) (4 * g + (j + 1)) 0 (4 * g + (j + 1)) = 0)
      · exact (pk_us : upd (xa_position u) (4 * g + (j + 1)) (nI q) (4 * g + (j + 1)) = nI q)
      · exact (pk_us : upd (ya_pc v) (4 * g + (j + 1)) (nI q) (4 * g + (j + 1)) = nI q)
      · show ¬ st_mk (xa_kinds u q)
        rw [q2]; decide
theorem lv_fin {W : Nat} {u : SX} {v : SY} {n S g cc : Nat} (H : rl_mid W u v n S g 1) (s : xa_state u = 1) (hm : (xa_mode u (4 * g) = 1 ∧ ya_panics v (4 * g) = 0) ∨ (xa_mode u (4 * g) = 2 ∧ ya_panics v (4 * g) = 1)) (hn : xa_noteCount u (4 * g) = nI 0) (hc : cc < 10) :
    ∃ k u' v', k ≤ 1 ∧ mv k u u' ∧ (∀ (P : SY → Prop) m, P v' → cy_leave_2 P (nI g) (m + 1) (nI cc) v) ∧ rl_out W (ya_status v) g u' v' := by
  obtain ⟨m1, m2, m3, m4, m5, m6, m7, m8, m9, m10, m11⟩ := id H.2.2.2.2.2
  obtain ⟨L0, B1, B2, B3, B4, B5, B6, B7, B8, B9, B10, B11, B12, B13, B14, B15, B16, B17, B18, B19, B20, B21, B22⟩ := id H.1.1
  have hg := (mid_t H).2
  have hr := H.2.2.1
  have hnY : ya_noted v (4 * g) = nI 0 := by rw [B19]; exact hn
  have xr := mid_xr H s
  obtain ⟨_, _, _, _, _, _, _, _, m9, m10, _⟩ := me_b H.2.2.2.2.2
  obtain ⟨C0, C1, C2, C3, C4, C5, C6, C7, C8, C9, C10, C11, C12, C13, C14, C15, C16, C17, C18, C19, C20, C21, C22⟩ := bs_b H.1.1
  rcases hm with ⟨a, b⟩ | ⟨a, b⟩
  · have a0 : ¬ xa_mode u (4 * g) = 0 := by rw [a]; decide
    have a2 : ¬ xa_mode u (4 * g) = 2 := by rw [a]; decide
    by_cases g0 : g = 0
    · refine ⟨1, xs_status (xs_running (xs_state (xs_depth u (upd (xa_depth u) g (nI 0))) 2) (-1)) (upd (xa_status u) g 3), ys_status (ys_off (ys_state (ys_depth v (upd (ya_depth v) g (nI 0))) 2) 1) (upd (ya_status v) g 3), by omega,
        mv_lv xr a0 (fun Q q => xl_fin hg hr m3 hn (fun z => absurd z a2) (fun _ _ => q) (fun _ z => absurd g0 z)), fun P m p => yl_fin hg hc m4 hnY (fun z => absurd b z) (fun _ _ => p) (fun _ z => absurd g0 z), Or.inr (Or.inr ⟨⟨C0, C1, C2, C3, C4, C5, rfl, C7, C8, C9, C10, C11, C12, C13, C14, C15, C16, C17, C18, C19, C20, C21, C22⟩, ?_, by show ¬ (2 : Int32) = 1; decide⟩)⟩
      exact ob_mid H rfl rfl (fun g1 h1 => ⟨(pk_un h1 : (upd (xa_status u) g 3) g1 = xa_status u g1), (pk_un h1 : (upd (xa_depth u) g (nI 0)) g1 = xa_depth u g1), rfl, fr_er, fr_er, fr_er, fr_er, fr_er, fr_er, fr_er, fr_er⟩) (fun g1 h1 => ⟨(pk_un h1 : (upd (ya_status v) g 3) g1 = ya_status v g1), (pk_un h1 : (upd (ya_depth v) g (nI 0)) g1 = ya_depth v g1), rfl, rfl, rfl, rfl, fr_er, fr_er, fr_er, fr_er, fr_er⟩) ⟨0, by omega, (pk_us : upd (xa_depth u) g (nI 0) g = nI 0), (pk_us : upd (ya_depth v) g (nI 0) g = nI 0), Or.inl ⟨(pk_us : upd (xa_status u) g 3 g = 3), (pk_us : upd (ya_status v) g 3 g = 3)⟩, fun j hj => by omega⟩
    · refine ⟨1, xs_status (xs_running (xs_depth u (upd (xa_depth u) g (nI 0))) (-1)) (upd (xa_status u) g 3), ys_status (ys_off (ys_depth v (upd (ya_depth v) g (nI 0))) 1) (upd (ya_status v) g 3), by omega,
        mv_lv xr a0 (fun Q q => xl_fin hg hr m3 hn (fun z => absurd z a2) (fun _ z => absurd z g0) (fun _ _ => q)), fun P m p => yl_fin hg hc m4 hnY (fun z => absurd b z) (fun _ z => absurd z g0) (fun _ _ => p), Or.inr (Or.inl ⟨⟨n, S, ?_, rfl, rfl, s⟩, rfl⟩)⟩
      refine co_off H (Nat.le_refl _) ⟨rfl, rfl, rfl, rfl, rfl, rfl, rfl, rfl, rfl, rfl⟩ (fun g1 h1 => ⟨(pk_un h1 : (upd (xa_status u) g 3) g1 = xa_status u g1), (pk_un h1 : (upd (xa_depth u) g (nI 0)) g1 = xa_depth u g1), rfl, fr_er, fr_er, fr_er, fr_er, fr_er, fr_er, fr_er, fr_er⟩) (fun g1 h1 => ⟨(pk_un h1 : (upd (ya_status v) g 3) g1 = ya_status v g1), (pk_un h1 : (upd (ya_depth v) g (nI 0)) g1 = ya_depth v g1), rfl, rfl, rfl, rfl, fr_er, fr_er, fr_er, fr_er, fr_er⟩) ⟨C0, C1, C2, C3, C4, C5, C6, C7, C8, C9, C10, C11, C12, C13, C14, C15, C16, C17, C18, C19, C20, C21, C22⟩ (chn_fr H.1.2.2.2.2.2.2.1 rfl rfl rfl rfl rfl rfl) rfl (que_off H.1.2.2.2.2.2.2.2.1 rfl rfl rfl (fun g1 h1 => (pk_un h1 : upd (ya_status v) g 3 g1 = ya_status v g1)) ?_) (tm_fr H.1.2.2.2.2.2.2.2.2.1 rfl rfl) ⟨0, by omega, (pk_us : upd (xa_depth u) g (nI 0) g = nI 0), (pk_us : upd (ya_depth v) g (nI 0) g = nI 0), Or.inl ⟨rfl, (pk_us : upd (xa_status u) g 3 g = 3), (pk_us : upd (ya_status v) g 3 g = 3), (rl_nw_fr rfl fr_er m11), m9, m10⟩⟩
      show ¬ upd (ya_status v) g 3 g = 1
      rw [pk_us]; decide
  · have a0 : ¬ xa_mode u (4 * g) = 0 := by rw [a]; decide
    have b0 : ¬ ya_panics v (4 * g) = 0 := by rw [b]; decide
    refine ⟨1, xs_status (xs_running (xs_endingPanic (xs_state (xs_depth u (upd (xa_depth u) g (nI 0))) 3) (xa_panicOf u (4 * g))) (-1)) (upd (xa_status u) g 3), ys_status (ys_panicValue (ys_off (ys_state (ys_depth v (upd (ya_depth v) g (nI 0))) 3) 1) (ya_panicWith v (4 * g))) (upd (ya_status v) g 3), by omega,
      mv_lv xr a0 (fun Q q => xl_fin hg hr m3 hn (fun _ => q) (fun z => absurd a z) (fun z => absurd a z)), fun P m p => yl_fin hg hc m4 hnY (fun _ => p) (fun z => absurd z b0) (fun z => absurd z b0), Or.inr (Or.inr ⟨⟨C0, C1, C2, C3, C4, C5, rfl, C7, C8, C9, (show yb_panicWith v (4 * g) = xb_panicOf u (4 * g) by rw [C21]), C11, C12, C13, C14, C15, C16, C17, C18, C19, C20, C21, C22⟩, ?_, by show ¬ (3 : Int32) = 1; decide⟩)⟩
    exact ob_mid H rfl rfl (fun g1 h1 => ⟨(pk_un h1 : (upd (xa_status u) g 3) g1 = xa_status u g1), (pk_un h1 : (upd (xa_depth u) g (nI 0)) g1 = xa_depth u g1), rfl, fr_er, fr_er, fr_er, fr_er, fr_er, fr_er, fr_er, fr_er⟩) (fun g1 h1 => ⟨(pk_un h1 : (upd (ya_status v) g 3) g1 = ya_status v g1), (pk_un h1 : (upd (ya_depth v) g (nI 0)) g1 = ya_depth v g1), rfl, rfl, rfl, rfl, fr_er, fr_er, fr_er, fr_er, fr_er⟩) ⟨0, by omega, (pk_us : upd (xa_depth u) g (nI 0) g = nI 0), (pk_us : upd (ya_depth v) g (nI 0) g = nI 0), Or.inl ⟨(pk_us : upd (xa_status u) g 3 g = 3), (pk_us : upd (ya_status v) g 3 g = 3)⟩, fun j hj => by omega⟩
theorem lv_all {W n S g : Nat} : ∀ j u v c, rl_mid W u v n S g (j + 1) → xa_state u = 1 → ((xa_mode u (4 * g + j) = 1 ∧ ya_panics v (4 * g + j) = 0) ∨ (xa_mode u (4 * g + j) = 2 ∧ ya_panics v (4 * g + j) = 1)) → c + j < 10 →
    ∃ k u' v', k ≤ 200 * (j + 1) ∧ mv k u u' ∧ (∀ (P : SY → Prop) m, j + 1 < m → P v' → cy_leave_2 P (nI g) m (nI c) v) ∧ rl_out W (ya_status v) g u' v' := by
  intro j
  induction j with
  | zero =>
    intro u v c H s hm hc
    obtain ⟨q, q1, q2, _⟩ := H.2.2.2.2.2.2.2.2.2.2.1 0 (by omega)
    cases q with
    | zero =>
      obtain ⟨k, u', v', k1, k2, k3, k4⟩ := lv_fin H s hm q2 (by omega : c < 10)
      refine ⟨k, u', v', by omega, k2, fun P m hm p => ?_, k4⟩
      obtain ⟨m, rfl⟩ : ∃ q, m = q + 1 := ⟨m - 1, by omega⟩
      exact k3 P m p
    | succ q =>
      obtain ⟨k, u', v', k1, k2, k3, k4⟩ := lv_note H s hm q2 (by omega) (by omega : c < 10)
      refine ⟨k, u', v', by omega, k2, fun P m hm p => ?_, k4⟩
      obtain ⟨m, rfl⟩ : ∃ q, m = q + 1 := ⟨m - 1, by omega⟩
      exact k3 P m p
  | succ j ih =>
    intro u v c H s hm hc
    obtain ⟨q, q1, q2, _⟩ := H.2.2.2.2.2.2.2.2.2.2.1 (j + 1) (by omega)
    cases q with
    | succ q =>
      obtain ⟨k, u', v', k1, k2, k3, k4⟩ := lv_note H s hm q2 (by omega) (by omega : c < 10)
      refine ⟨k, u', v', by omega, k2, fun P m hm p => ?_, k4⟩
      obtain ⟨m, rfl⟩ : ∃ q, m = q + 1 := ⟨m - 1, by omega⟩
      exact k3 P m p
    | zero =>
      obtain ⟨m1, m2, m3, m4, m5, m6, m7, m8, m9, m10, m11⟩ := id H.2.2.2.2.2
      obtain ⟨L0, B1, B2, B3, B4, B5, B6, B7, B8, B9, B10, B11, B12, B13, B14, B15, B16, B17, B18, B19, B20, B21, B22⟩ := id H.1.1
      have T := H.1.2.1
      have TY := sy_bs H.1.1 T
      have hg := (mid_t H).2
      have hr := H.2.2.1
      have xr := mid_xr H s
      have q2Y : ya_noted v (4 * g + j + 1) = nI 0 := by rw [B19]; exact q2
      have HP := mid_pop H
      rcases hm with ⟨a, b⟩ | ⟨a, b⟩
      · have a0 : ¬ xa_mode u (4 * g + j + 1) = 0 := by rw [show xa_mode u (4 * g + j + 1) = 1 from a]; decide
        have a2 : ¬ xa_mode u (4 * g + j + 1) = 2 := by rw [show xa_mode u (4 * g + j + 1) = 1 from a]; decide
        have b : ya_panics v (4 * g + j + 1) = 0 := b
        have mv1 : mv 1 u (xs_depth u (upd (xa_depth u) g (nI (j + 1)))) := mv_lv xr a0 (fun Q q => xl_pop hg m2 hr m3 q2 (fun z => absurd z a2) (fun _ => q))
        rcases m5.2 j (by omega) with ⟨l1, l2, l3, p, l4, l5, l6, l7⟩ | ⟨l1, l2⟩
        · have p1 : p + 1 < n := st_nx T.2.1 l4 (by rw [l5]; decide)
          obtain ⟨k, u1, k1, k2, k3, k4, k5⟩ := go_core HP s l2 l3 l7 p1
          have k4 : st_ch (xa_kinds u) n (p + 1) < n := k4
          rcases k5 with ⟨k5, k6⟩ | ⟨k5, k6, k7⟩
          · have k5 : ¬ xa_kinds u (st_ch (xa_kinds u) n (p + 1)) = 1 := k5
            refine ⟨1 + k, u1, _, by omega, mv_t mv1 k2, fun P m hm pp => ?_, Or.inl ⟨k6, k3⟩⟩
            obtain ⟨m, rfl⟩ : ∃ q, m = q + 1 := ⟨m - 1, by omega⟩
            refine yl_pop TY hg m2 (by omega) m4 q2Y (fun z => absurd b z) (fun _ z => absurd l1 z) (fun _ _ => ⟨p, p1, l6, ?_⟩)
            rw [B1]
            exact ⟨k4, fun z => absurd z k5, fun _ => pp⟩
          · have k5 : xa_kinds u (st_ch (xa_kinds u) n (p + 1)) = 1 := k5
            obtain ⟨k', u', v', i1, i2, i3, i4⟩ := ih u1 _ (c + 1) k6 k3 (Or.inl ⟨k7, l3⟩) (by omega)
            refine ⟨1 + k + k', u', v', by omega, mv_t (mv_t mv1 k2) i2, fun P m hm pp => ?_, i4⟩
            obtain ⟨m, rfl⟩ : ∃ q, m = q + 1 := ⟨m - 1, by omega⟩
            refine yl_pop TY hg m2 (by omega) m4 q2Y (fun z => absurd b z) (fun _ z => absurd l1 z) (fun _ _ => ⟨p, p1, l6, ?_⟩)
            rw [B1]
            exact ⟨k4, fun _ => i3 P m (by omega) pp, fun z => absurd k5 z⟩
        · obtain ⟨k', u', v', i1, i2, i3, i4⟩ := ih _ _ (c + 1) HP s l2 (by omega)
          refine ⟨1 + k', u', v', by omega, mv_t mv1 i2, fun P m hm pp => ?_, i4⟩
          obtain ⟨m, rfl⟩ : ∃ q, m = q + 1 := ⟨m - 1, by omega⟩
          have l1' : ¬ ya_asNote v (4 * g + j + 1) = 0 := by rw [l1]; decide
          exact yl_pop TY hg m2 (by omega) m4 q2Y (fun z => absurd b z) (fun _ _ => i3 P m (by omega) pp) (fun _ z => absurd z l1')
      · have a : xa_mode u (4 * g + j + 1) = 2 := a
        have b0 : ¬ ya_panics v (4 * g + j + 1) = 0 := by rw [show ya_panics v (4 * g + j + 1) = 1 from b]; decide
        have a0 : ¬ xa_mode u (4 * g + j + 1) = 0 := by rw [a]; decide
        have e21 : ya_panicWith v (4 * g + j + 1) = xa_panicOf u (4 * g + j + 1) := by rw [B21]
        have H1 : rl_mid W (xs_panicOf (xs_mode (xs_depth u (upd (xa_depth u) g (nI (j + 1)))) (upd (xa_mode u) (4 * g + j) 2)) (upd (xa_panicOf u) (4 * g + j) (xa_panicOf u (4 * g + j + 1)))) (ys_panicWith (ys_panics (ys_depth v (upd (ya_depth v) g (nI (j + 1)))) (upd (ya_panics v) (4 * g + j) 1)) (upd (ya_panicWith v) (4 * g + j) (xa_panicOf u (4 * g + j + 1)))) n S g (j + 1) := mid_pan HP
        obtain ⟨k', u', v', i1, i2, i3, i4⟩ := ih _ _ (c + 1) H1 s (Or.inr ⟨(pk_us : upd (xa_mode u) (4 * g + j) 2 (4 * g + j) = 2), (pk_us : upd (ya_panics v) (4 * g + j) 1 (4 * g + j) = 1)⟩) (by omega)
        refine ⟨1 + k', u', v', by omega, mv_t (mv_lv xr a0 (fun Q q => xl_pop hg m2 hr m3 q2 (fun _ => q) (fun z => absurd a z))) i2, fun P m hm pp => ?_, i4⟩
        obtain ⟨m, rfl⟩ : ∃ q, m = q + 1 := ⟨m - 1, by omega⟩
        exact yl_pop TY hg m2 (by omega) m4 q2Y (fun _ => by rw [e21]; exact i3 P m (by omega) pp) (fun z => absurd z b0) (fun z => absurd z b0)
/-- the running goroutine comes to line p -/
theorem go_all {W : Nat} {u : SX} {v : SY} {n S g j p p' : Nat} (H : rl_mid W u v n S g (j + 1)) (s : xa_state u = 1) (hm : xa_mode u (4 * g + j) = 0) (hp : ya_panics v (4 * g + j) = 0) (hx : xa_position u (4 * g + j) = nI p) (pn : p < n) (pn' : p' < n) (pe : st_ch (xa_kinds u) n p' = st_ch (xa_kinds u) n p) :
    ∃ k u' v', k ≤ 1000 ∧ mv k u u' ∧ (∀ P : SY → Prop, P v' → wpY_goOn P v (nI g) (nI p')) ∧ rl_out W (ya_status v) g u' v' := by
  obtain ⟨m1, m2, m3, m4, m5, m6, m7, m8, m9, m10, m11⟩ := id H.2.2.2.2.2
  have T := H.1.2.1
  have TY := sy_bs H.1.1 T
  have hg := (mid_t H).2
  have n60 := T.2.1.1
  have B1 := H.1.1.2.1
  have ct : (nI (4 * g + j)).toNatClampNeg = 4 * g + j := nI_clamp (by omega)
  have vt : vp_in (nI (4 * g + j)) 48 := vp_in_nI (by omega) (by decide)
  obtain ⟨k, u1, k1, k2, k3, k4, k5⟩ := go_core H s hm hp hx pn
  have pre : ∀ P : SY → Prop, (ya_kind v (st_ch (ya_kind v) n p) = 1 → wpY_leave P (ys_pc v (upd (ya_pc v) (4 * g + j) (nI (st_ch (ya_kind v) n p)))) (nI g)) → (¬ ya_kind v (st_ch (ya_kind v) n p) = 1 → P (ys_pc v (upd (ya_pc v) (4 * g + j) (nI (st_ch (ya_kind v) n p))))) → wpY_goOn P v (nI g) (nI p') := by
    intro P h1 h2
    rw [← B1] at k4 pe
    rw [uy_goOn]
    refine yg_topOf (d := j + 1) hg (by omega) m4 (ye_settle TY.1 TY.2.1 pn' ?_)
    rw [pe, show 4 * g + (j + 1) - 1 = 4 * g + j from rfl, ct, nb_64 _ (by omega)]
    refine ⟨vt, nm_e (yg_topOf (v := ys_pc v (upd (ya_pc v) (4 * g + j) (nI (st_ch (ya_kind v) n p)))) (d := j + 1) hg (by omega) m4 ?_)⟩
    rw [show 4 * g + (j + 1) - 1 = 4 * g + j from rfl, ct, pk_us, nI_clamp (show st_ch (ya_kind v) n p < 2 ^ 31 by omega)]
    exact ⟨vt, vp_in_nI (by omega) (by decide), br_c h1 h2⟩
  rw [B1] at pre
  rcases k5 with ⟨k5, k6⟩ | ⟨k5, k6, k7⟩
  · exact ⟨k, u1, _, by omega, k2, fun P pp => pre P (fun z => absurd z k5) (fun _ => pp), Or.inl ⟨k6, k3⟩⟩
  · obtain ⟨k', u', v', i1, i2, i3, i4⟩ := lv_all j u1 _ 0 k6 k3 (Or.inl ⟨k7, hp⟩) (by omega)
    refine ⟨k + k', u', v', by omega, mv_t k2 i2, fun P pp => pre P (fun _ => ?_) (fun z => absurd k5 z), i4⟩
    rw [uy_leave]
    exact ⟨j + 2, i3 P (j + 2) (by omega) pp⟩
/-- the running goroutine leaves its latest activation -/
theorem le_all {W : Nat} {u : SX} {v : SY} {n S g j : Nat} (H : rl_mid W u v n S g (j + 1)) (s : xa_state u = 1) (hm : (xa_mode u (4 * g + j) = 1 ∧ ya_panics v (4 * g + j) = 0) ∨ (xa_mode u (4 * g + j) = 2 ∧ ya_panics v (4 * g + j) = 1)) :
    ∃ k u' v', k ≤ 1000 ∧ mv k u u' ∧ (∀ P : SY → Prop, P v' → wpY_leave P v (nI g)) ∧ rl_out W (ya_status v) g u' v' := by
  have m2 := H.2.2.2.2.2.2.1
  obtain ⟨k', u', v', i1, i2, i3, i4⟩ := lv_all j u v 0 H s hm (by omega)
  refine ⟨k', u', v', by omega, i2, fun P pp => ?_, i4⟩
  rw [uy_leave]
  exact ⟨j + 2, i3 P (j + 2) (by omega) pp⟩
/-- the running goroutine panics -/
theorem pa_all {W : Nat} {u : SX} {v : SY} {n S g j : Nat} {x : Int32} (H : rl_mid W u v n S g (j + 1)) (s : xa_state u = 1) :
    ∃ k u' v', k ≤ 1000 ∧ mv k (xs_panicOf (xs_mode u (upd (xa_mode u) (4 * g + j) 2)) (upd (xa_panicOf u) (4 * g + j) x)) u' ∧ (∀ P : SY → Prop, P v' → wpY_panic P v (nI g) x) ∧ rl_out W (ya_status v) g u' v' := by
  have m2 := H.2.2.2.2.2.2.1
  have m4 := H.2.2.2.2.2.2.2.2.1
  have hg := (mid_t H).2
  have ct : (nI (4 * g + j)).toNatClampNeg = 4 * g + j := nI_clamp (by omega)
  have vt : vp_in (nI (4 * g + j)) 48 := vp_in_nI (by omega) (by decide)
  obtain ⟨k', u', v', i1, i2, i3, i4⟩ := le_all (mid_pan (x := x) H) s (Or.inr ⟨(pk_us : upd (xa_mode u) (4 * g + j) 2 (4 * g + j) = 2), (pk_us : upd (ya_panics v) (4 * g + j) 1 (4 * g + j) = 1)⟩)
  refine ⟨k', u', v', by omega, i2, fun P pp => ?_, i4⟩
  rw [uy_panic]
  refine yg_topOf (d := j + 1) hg (by omega) m4 ?_
  rw [show 4 * g + (j + 1) - 1 = 4 * g + j from rfl, ct]
  refine ⟨vt, nm_r (show _ = upd (ya_panics v) (4 * g + j) 1 from rfl) (yg_topOf (v := ys_panics v (upd (ya_panics v) (4 * g + j) 1)) (d := j + 1) hg (by omega) m4 ?_)⟩
  rw [show 4 * g + (j + 1) - 1 = 4 * g + j from rfl, ct]
  exact ⟨vt, nm_e (i3 P pp)⟩
