/-! check: both -/
theorem fm_30 {K : Nat → Int32} {n : Nat} (n60 : n ≤ 60) (h : fm_res K n (-1)) : st_f K n ≤ 30 := by
  obtain ⟨W, ok, n0⟩ := fm_wf n60 h
  have key : ∀ i, i ≤ n → 2 * st_f K i ≤ i + (if st_s K i = [] then 0 else 1) := by
    intro i
    induction i with
    | zero => intro _; show 2 * 0 ≤ _; omega
    | succ i ih =>
      intro hi
      have F := fm_F (ok i (by omega))
      by_cases z : K i = 0
      · have := ih (by omega)
        rw [if_pos (F.mp z)] at this
        rw [fm_f1 z, st_opn (Or.inl z), if_neg (by simp)]
        omega
      · exact fm_a6 z F (ih (by omega))
  have := key n (Nat.le_refl _)
  rw [if_pos W.2.1] at this
  omega
theorem ck_start {post : Int32 → SX → SY → Prop} {u w : SX} {v : SY} {n : Nat} {k : Nat} (B : rl_base u v) (hx : rl_ix u w) (T : sx_st w n) (TY : sy_st v n) (fx : xa_foundLine w = -1)
    (h : ∀ u' v', i_Rel k u' v' → post 0 u' v') {Q : SX → Prop} (hQ : ∀ u', (∀ w', rl_iy v w' → ya_bad w' = -1 → wpY_start (fun u173 => post 0 u' (ys_queued u173 0)) (ys_state w' 1) 0 0 0) → Q u') :
    wpX_startGoroutine (fun r_168 u169 => Q (xs_running (xs_state u169 1) r_168)) w 0 0 0 := by
  obtain ⟨t1, t2, t3, t4, t5, t6, t7⟩ := T
  have T : sx_st w n := ⟨t1, t2, t3, t4, t5, t6, t7⟩
  have k0 : xa_kinds w 0 = 0 := (t2.2.2.1 0 t3).mpr rfl
  obtain ⟨p, hp, ep⟩ := (t6 0 t3).2.1 k0
  have fl0 : xa_functionLine w 0 = nI 0 := t5.2.2.2.1 0 t3 k0
  have g0 : xa_goroutineCount w = nI 0 := hx.2.2.2.2.2.2.2.1
  refine ck_xp (j := 0) (p := p) T g0 fl0 (by decide) ep hp (hQ _ (fun w' hy fy => ?_))
  have BW := ck_base B hx hy (fy.trans fx.symm)
  have kk : ya_kind w' = xa_kinds w := BW.2.1
  have ka : ya_opA w' = xa_argA w := BW.2.2.1
  obtain ⟨y1, y2, y3, y4, y5, y7, y8, y9, z1, z2, z3, z4, z5, z6, z7, z8, z9, w1, w2, w3, w4, w5, w6, w7, w8⟩ := hy
  have k0' : ya_kind w' 0 = 0 := by rw [kk]; exact k0
  have ep' : ya_opA w' 0 = nI p := by rw [ka]; exact ep
  have TY' : sy_st (ys_state w' 1) n := by
    obtain ⟨a1, a2, a3, a4, a5, a6, a7⟩ := TY
    exact ⟨(y1.trans a1 : ya_lines w' = nI n), (show st_wf (ya_kind w') n by rw [y2]; exact a2), a3, (show ∀ j, j < n → fm_ok (ya_kind w') j by rw [y2]; exact a4), (show ∀ i, i < n → ln_ok (ya_kind w' i) (ya_opA w' i) (ya_opB w' i) (ya_opC w' i) by rw [y2, y3, y4, y5]; exact a5),
      (show ∀ i, i < n → ln_go (ya_kind w' i) → ya_opA w' i < nI (st_f (ya_kind w') n) by rw [y2, y3]; exact a6), (show st_f (ya_kind w') n ≤ 30 by rw [y2]; exact a7)⟩
  have hF : 0 < st_f (ya_kind w') n := st_f_lt k0' n t3
  refine ck_yp (v := ys_state w' 1) (n := n) TY' (y9 : ya_started w' = 0) ((w8 0 (Nat.le_refl _) (by decide)).2.1 : ya_depth w' 0 = 0) (y8 : ya_queued w' = 0) hF (fun j' p' a b c d e => ?_)
  have c' : st_f (ya_kind w') j' = 0 := c
  have d' : ya_opA w' j' = nI p' := d
  have j0 : j' = 0 := by
    by_cases z : j' = 0
    · exact z
    · have := st_f_lt k0' j' (by omega)
      omega
  subst j0
  rw [ep'] at d'
  have pp : p' = p := ((nI_eq (by omega) (by omega)).mp d').symm
  subst pp
  exact h _ _ (ck_rel (ck_base1 BW) T hx.2.2.2.2.2.2.2.2.2.2.2.1 hx.2.2.2.2.2.2.1 hx.2.2.2.2.2.2.2.2.2.1 hx.2.2.2.2.2.2.2.2.1 (z4 : ya_off w' = 0) (z1 : ya_now w' = 0) (y9 : ya_started w' = 0) w8 t3 k0)
theorem i_vc_check {k : Nat} {u : SX} {v : SY} (I : i_Rel k u v) (hk : k + 5 ≤ 2560) : wpX_check (fun r u' => wpY_check (fun r' v' => r' = r ∧ i_Rel (k + 5) u' v') v) u := by
  obtain ⟨B, _⟩ := I
  have B' := B
  obtain ⟨⟨n, n60, e1, e2, L⟩, B1, B2, B3, B4, _⟩ := B'
  have L' : ∀ i, i < n → ln_ok (ya_kind v i) (ya_opA v i) (ya_opB v i) (ya_opC v i) := by rw [B1, B2, B3, B4]; exact L
  have hl : ∀ i, i < n → ln_go (ya_kind v i) → ∃ p, p < 30 ∧ ya_opA v i = nI p := fun i hi g => (L' i hi).2.2.2.2.2 g
  have F30y : fm_res (ya_kind v) n (-1) → st_f (ya_kind v) n ≤ 30 := fun hr => fm_30 n60 hr
  have hS : fm_res (ya_kind v) n (-1) → ce_res (ya_kind v) (ya_opA v) (st_f (ya_kind v) n) n (-1) → sy_st v n := by
    intro hr hc
    obtain ⟨W, ok, n0⟩ := fm_wf n60 hr
    refine ⟨e2, W, n0, ok, L', ?_, F30y hr⟩
    rcases hc with ⟨i, a, _, _, _, d⟩ | ⟨b, _⟩
    · exact absurd d.symm (ne_m1 (by omega))
    · exact b
  have F60 : fm_res (ya_kind v) n (-1) → st_f (ya_kind v) n ≤ 60 := fun hr => Nat.le_trans (F30y hr) (by decide)
  refine xk_1 e1 n60 L (fun r w a b c d => ?_) (fun r w a b b2 c d => ?_) (fun r w a b b2 b3 c d => ?_) (fun w a b b2 T c d => ?_)
  · rw [← B1] at c
    exact yk_1 e2 n60 F60 hl hS (fun r' w' a' b' c' d' => ⟨rfl, ck_idle B a a' (by rw [d, d']; exact fm_uniq c c')⟩) (fun r' w' a' b' c' d' e' => absurd (fm_uniq b' c) b) (fun r' w' a' b' c' d' e' f' => absurd (fm_uniq b' c) b) (fun w' a' b' c' d' e' => absurd (fm_uniq b' c) b)
  · rw [← B1] at b c
    rw [← B2] at c
    exact yk_1 e2 n60 F60 hl hS (fun r' w' a' b' c' d' => absurd (fm_uniq b c') b') (fun r' w' a' b' c' d' e' => ⟨rfl, ck_idle B a a' (by rw [d, e']; exact ce_uniq c d')⟩) (fun r' w' a' b' c' d' e' f' => absurd (ce_uniq c' c) b2) (fun w' a' b' c' d' e' => absurd (ce_uniq c' c) b2)
  · rw [← B1] at b b2 c
    rw [← B2] at b2 c
    rw [← B3, ← B4] at c
    exact yk_1 e2 n60 F60 hl hS (fun r' w' a' b' c' d' => absurd (fm_uniq b c') b') (fun r' w' a' b' c' d' e' => absurd (ce_uniq b2 d') c') (fun r' w' a' b' c' d' e' f' => ⟨rfl, ck_idle B a a' (by rw [d, f']; exact un_uniq c e')⟩) (fun w' a' b' c' d' e' => absurd (un_uniq d' c) b3)
  · rw [← B1] at b b2 c
    rw [← B2] at b2 c
    rw [← B3, ← B4] at c
    refine ck_start (post := fun r u' v' => r = 0 ∧ i_Rel (k + 5) u' v') (Q := fun u' => wpY_check (fun r' v' => r' = 0 ∧ i_Rel (k + 5) u' v') v) (k := k + 5) B a T (hS b b2) d (fun u' v' h => ⟨rfl, h⟩) (fun u' hY => ?_)
    exact yk_1 e2 n60 F60 hl hS (fun r' w' a' b' c' d' => absurd (fm_uniq b c') b') (fun r' w' a' b' c' d' e' => absurd (ce_uniq b2 d') c') (fun r' w' a' b' c' d' e' f' => absurd (un_uniq c e') d') (fun w' a' b' c' d' e' => hY w' a' e')
