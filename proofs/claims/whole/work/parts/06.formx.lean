/-! X: the loop of the form -/
def fm_w (u : SX) (fc : Int32) (bo eo el fl : Nat → Int32) : SX := xs_functionLine (xs_elseOf (xs_endOf (xs_blockOf (xs_functionCount u fc) bo) eo) el) fl
theorem fm_n1 {u : SX} {fc : Int32} {bo eo el fl b e : Nat → Int32} : xs_elseOf (xs_blockOf (fm_w u fc bo eo el fl) b) e = fm_w u fc b eo e fl := Eq.trans (b := (xb_lineCount u, fc, xb_foundLine u, xb_state u, xb_time u, xb_endingPanic u, xb_outputCount u, xb_channelCount u, xb_goroutineCount u, xb_waitsBegun u, xb_running u, xb_queueLength u, xb_kinds u, xb_argA u, xb_argB u, xb_argC u, b, eo, e, fl, xb_surelySet u, xb_outputs u, xb_capacity u, xb_fill u, xb_closed u, xb_held u, xb_status u, xb_depth u, xb_waitOrder u, xb_waitUntil u, xb_queue u, xb_slotWish u, xb_slotLine u, xb_position u, xb_mode u, xb_panicOf u, xb_noteCount u, xb_noteFunction u, xb_noteValues u, xb_variables u)) rfl rfl
theorem fm_n2 {u : SX} {fc c : Int32} {bo eo el fl b e f : Nat → Int32} : xs_functionLine (xs_elseOf (xs_blockOf (xs_functionCount (fm_w u fc bo eo el fl) c) b) e) f = fm_w u c b eo e f := Eq.trans (b := (xb_lineCount u, c, xb_foundLine u, xb_state u, xb_time u, xb_endingPanic u, xb_outputCount u, xb_channelCount u, xb_goroutineCount u, xb_waitsBegun u, xb_running u, xb_queueLength u, xb_kinds u, xb_argA u, xb_argB u, xb_argC u, b, eo, e, f, xb_surelySet u, xb_outputs u, xb_capacity u, xb_fill u, xb_closed u, xb_held u, xb_status u, xb_depth u, xb_waitOrder u, xb_waitUntil u, xb_queue u, xb_slotWish u, xb_slotLine u, xb_position u, xb_mode u, xb_panicOf u, xb_noteCount u, xb_noteFunction u, xb_noteValues u, xb_variables u)) rfl rfl
theorem fm_n3 {u : SX} {fc : Int32} {bo eo el fl e : Nat → Int32} : xs_elseOf (fm_w u fc bo eo el fl) e = fm_w u fc bo eo e fl := Eq.trans (b := (xb_lineCount u, fc, xb_foundLine u, xb_state u, xb_time u, xb_endingPanic u, xb_outputCount u, xb_channelCount u, xb_goroutineCount u, xb_waitsBegun u, xb_running u, xb_queueLength u, xb_kinds u, xb_argA u, xb_argB u, xb_argC u, bo, eo, e, fl, xb_surelySet u, xb_outputs u, xb_capacity u, xb_fill u, xb_closed u, xb_held u, xb_status u, xb_depth u, xb_waitOrder u, xb_waitUntil u, xb_queue u, xb_slotWish u, xb_slotLine u, xb_position u, xb_mode u, xb_panicOf u, xb_noteCount u, xb_noteFunction u, xb_noteValues u, xb_variables u)) rfl rfl
theorem fm_n4 {u : SX} {fc : Int32} {bo eo el fl e : Nat → Int32} : xs_endOf (fm_w u fc bo eo el fl) e = fm_w u fc bo e el fl := Eq.trans (b := (xb_lineCount u, fc, xb_foundLine u, xb_state u, xb_time u, xb_endingPanic u, xb_outputCount u, xb_channelCount u, xb_goroutineCount u, xb_waitsBegun u, xb_running u, xb_queueLength u, xb_kinds u, xb_argA u, xb_argB u, xb_argC u, bo, e, el, fl, xb_surelySet u, xb_outputs u, xb_capacity u, xb_fill u, xb_closed u, xb_held u, xb_status u, xb_depth u, xb_waitOrder u, xb_waitUntil u, xb_queue u, xb_slotWish u, xb_slotLine u, xb_position u, xb_mode u, xb_panicOf u, xb_noteCount u, xb_noteFunction u, xb_noteValues u, xb_variables u)) rfl rfl
theorem fm_n0 {u : SX} {c : Int32} : xs_functionCount u c = fm_w u c (xa_blockOf u) (xa_endOf u) (xa_elseOf u) (xa_functionLine u) := Eq.trans (b := (xb_lineCount u, c, xb_foundLine u, xb_state u, xb_time u, xb_endingPanic u, xb_outputCount u, xb_channelCount u, xb_goroutineCount u, xb_waitsBegun u, xb_running u, xb_queueLength u, xb_kinds u, xb_argA u, xb_argB u, xb_argC u, xb_blockOf u, xb_endOf u, xb_elseOf u, xb_functionLine u, xb_surelySet u, xb_outputs u, xb_capacity u, xb_fill u, xb_closed u, xb_held u, xb_status u, xb_depth u, xb_waitOrder u, xb_waitUntil u, xb_queue u, xb_slotWish u, xb_slotLine u, xb_position u, xb_mode u, xb_panicOf u, xb_noteCount u, xb_noteFunction u, xb_noteValues u, xb_variables u)) rfl rfl
def fm_A (K : Nat → Int32) (i : Nat) (fc : Int32) (bo eo el fl : Nat → Int32) : Prop :=
  (∀ j, j < i → bo j = st_h (st_s K j)) ∧
  (∀ e, e < i → K e = 1 → ∀ o r, st_s K e = o :: r → eo o = nI e) ∧
  (∀ o, o < i → (el o = -1 ∧ ¬ st_el K o i) ∨ ∃ j, j < i ∧ K j = 3 ∧ (st_s K j).head? = some o ∧ el o = nI j) ∧
  (∀ j, j < i → K j = 0 → fl (st_f K j) = nI j) ∧
  fc = nI (st_f K i) ∧ 2 * st_f K i ≤ i + (if st_s K i = [] then 0 else 1)
theorem fm_F {K : Nat → Int32} {i : Nat} (h : fm_ok K i) : K i = 0 ↔ st_s K i = [] := by
  cases e : st_s K i with
  | nil => rw [fm_nil e] at h; simp [h]
  | cons o r => rw [fm_cons e] at h; simp [h.1]
theorem st_f_lt {K : Nat → Int32} {j : Nat} (h : K j = 0) : ∀ i, j < i → st_f K j < st_f K i := by
  intro i
  induction i with
  | zero => intro h; omega
  | succ i ih =>
    intro hi
    show _ < st_f K i + _
    by_cases e : j = i
    · subst e; rw [if_pos h]; omega
    · have := ih (by omega); omega
theorem st_f_le {K : Nat → Int32} {j : Nat} : ∀ i, j ≤ i → st_f K j ≤ st_f K i := by
  intro i
  induction i with
  | zero => intro h; rw [show j = 0 by omega]; exact Nat.le_refl _
  | succ i ih =>
    intro hi
    by_cases e : j = i + 1
    · rw [e]; exact Nat.le_refl _
    · have := ih (by omega)
      exact Nat.le_trans this (Nat.le_add_right _ _)
theorem fm_a1 {K bo : Nat → Int32} {i : Nat} (h : ∀ j, j < i → bo j = st_h (st_s K j)) : ∀ j, j < i + 1 → upd bo i (st_h (st_s K i)) j = st_h (st_s K j) := by
  intro j hj
  by_cases e : j = i
  · subst e; exact pk_us
  · rw [pk_un e]; exact h j (by omega)
theorem fm_a2 {K eo : Nat → Int32} {i : Nat} (h : ∀ e, e < i → K e = 1 → ∀ o r, st_s K e = o :: r → eo o = nI e) (h1 : ¬ K i = 1) : ∀ e, e < i + 1 → K e = 1 → ∀ o r, st_s K e = o :: r → eo o = nI e := by
  intro e he k1
  by_cases z : e = i
  · subst z; exact absurd k1 h1
  · exact h e (by omega) k1
theorem fm_a2' {K eo : Nat → Int32} {i o : Nat} {r : List Nat} (F : st_F K (i + 1)) (h : ∀ e, e < i → K e = 1 → ∀ o r, st_s K e = o :: r → eo o = nI e) (h1 : K i = 1) (hs : st_s K i = o :: r) : ∀ e, e < i + 1 → K e = 1 → ∀ o' r', st_s K e = o' :: r' → upd eo o (nI i) o' = nI e := by
  intro e he k1 o' r' he'
  by_cases z : o' = o
  · subst z
    have := st_uniq F he k1 he' (Nat.lt_succ_self i) h1 hs
    subst this
    exact pk_us
  · rw [pk_un z]
    have : e ≠ i := by
      intro w
      subst w
      rw [hs] at he'
      injection he' with a b
      exact z a.symm
    exact h e (by omega) k1 o' r' he'
theorem st_el_s {K : Nat → Int32} {o i : Nat} (h : ¬ st_el K o i) (h3 : ¬ (K i = 3 ∧ (st_s K i).head? = some o)) : ¬ st_el K o (i + 1) := by
  rintro ⟨j, a, b, c⟩
  by_cases e : j = i
  · subst e; exact h3 ⟨b, c⟩
  · exact h ⟨j, by omega, b, c⟩
theorem st_el_0 {K : Nat → Int32} {i : Nat} : ¬ st_el K i (i + 1) := by
  rintro ⟨j, a, b, c⟩
  cases e : st_s K j with
  | nil => rw [e] at c; cases c
  | cons x t =>
    rw [e] at c
    have : x = i := by simpa using c
    have := (st_lt (K := K) (i := j) (b := x) (by rw [e]; exact List.mem_cons_self)).1
    omega
theorem fm_a3 {K el : Nat → Int32} {i : Nat} (h : ∀ o, o < i → (el o = -1 ∧ ¬ st_el K o i) ∨ ∃ j, j < i ∧ K j = 3 ∧ (st_s K j).head? = some o ∧ el o = nI j) (h3 : ¬ K i = 3) :
    ∀ o, o < i + 1 → (upd el i (-1) o = -1 ∧ ¬ st_el K o (i + 1)) ∨ ∃ j, j < i + 1 ∧ K j = 3 ∧ (st_s K j).head? = some o ∧ upd el i (-1) o = nI j := by
  intro o ho
  by_cases e : o = i
  · subst e; exact Or.inl ⟨pk_us, st_el_0⟩
  · rw [pk_un e]
    rcases h o (by omega) with ⟨a, b⟩ | ⟨j, a, b, c, d⟩
    · exact Or.inl ⟨a, st_el_s b (fun z => h3 z.1)⟩
    · exact Or.inr ⟨j, by omega, b, c, d⟩
theorem fm_a3' {K el : Nat → Int32} {i q : Nat} {r : List Nat} (h : ∀ o, o < i → (el o = -1 ∧ ¬ st_el K o i) ∨ ∃ j, j < i ∧ K j = 3 ∧ (st_s K j).head? = some o ∧ el o = nI j) (h3 : K i = 3) (hs : st_s K i = q :: r) :
    ∀ o, o < i + 1 → (upd (upd el i (-1)) q (nI i) o = -1 ∧ ¬ st_el K o (i + 1)) ∨ ∃ j, j < i + 1 ∧ K j = 3 ∧ (st_s K j).head? = some o ∧ upd (upd el i (-1)) q (nI i) o = nI j := by
  intro o ho
  by_cases e : o = q
  · subst e; exact Or.inr ⟨i, by omega, h3, by rw [hs]; rfl, pk_us⟩
  · rw [pk_un e]
    by_cases e2 : o = i
    · subst e2; exact Or.inl ⟨pk_us, st_el_0⟩
    · rw [pk_un e2]
      rcases h o (by omega) with ⟨a, b⟩ | ⟨j, a, b, c, d⟩
      · refine Or.inl ⟨a, st_el_s b (fun z => ?_)⟩
        have := z.2
        rw [hs] at this
        exact e (by simpa using this.symm)
      · exact Or.inr ⟨j, by omega, b, c, d⟩
theorem fm_a4 {K fl : Nat → Int32} {i : Nat} (h : ∀ j, j < i → K j = 0 → fl (st_f K j) = nI j) (h0 : ¬ K i = 0) : ∀ j, j < i + 1 → K j = 0 → fl (st_f K j) = nI j := by
  intro j hj k0
  by_cases e : j = i
  · subst e; exact absurd k0 h0
  · exact h j (by omega) k0
theorem fm_a4' {K fl : Nat → Int32} {i : Nat} (h : ∀ j, j < i → K j = 0 → fl (st_f K j) = nI j) : ∀ j, j < i + 1 → K j = 0 → upd fl (st_f K i) (nI i) (st_f K j) = nI j := by
  intro j hj k0
  by_cases e : j = i
  · subst e; exact pk_us
  · have := st_f_lt k0 i (by omega)
    rw [pk_un (by omega)]
    exact h j (by omega) k0
theorem fm_f0 {K : Nat → Int32} {i : Nat} (h0 : ¬ K i = 0) : st_f K (i + 1) = st_f K i := by
  show st_f K i + _ = _
  rw [if_neg h0]; rfl
theorem fm_f1 {K : Nat → Int32} {i : Nat} (h0 : K i = 0) : st_f K (i + 1) = st_f K i + 1 := by
  show st_f K i + _ = _
  rw [if_pos h0]
theorem fm_a6 {K : Nat → Int32} {i : Nat} (h0 : ¬ K i = 0) (F : K i = 0 ↔ st_s K i = []) (h : 2 * st_f K i ≤ i + (if st_s K i = [] then 0 else 1)) : 2 * st_f K (i + 1) ≤ i + 1 + (if st_s K (i + 1) = [] then 0 else 1) := by
  rw [fm_f0 h0]
  rw [if_neg (fun z => h0 (F.mpr z))] at h
  split <;> omega
theorem xj_104 {post : Int32 → SX → Prop} {J : Int32 → Int32 → SX → Prop} {u : SX} {x1 k : Int32} {i : Nat} (h1 : st_op k → J (nI i) (nI (i + 1)) u) (h0 : ¬ st_op k → J x1 (nI (i + 1)) u) : cx_formFault_104 post J x1 (nI i) k u := by
  rw [ux_formFault_104]
  exact br_c (fun a => nm_r (nI_1 _) (h1 (Or.inl a))) (fun a => br_c (fun b => nm_r (nI_1 _) (h1 (Or.inr (Or.inl b)))) (fun b => br_c (fun c => nm_r (nI_1 _) (h1 (Or.inr (Or.inr (Or.inl c)))))
    (fun c => br_c (fun d => nm_r (nI_1 _) (h1 (Or.inr (Or.inr (Or.inr d))))) (fun d => nm_r (nI_1 _) (h0 (fun z => z.elim a (fun z => z.elim b (fun z => z.elim c d))))))))
theorem xf_loop {post : Int32 → SX → Prop} {u : SX} {n : Nat} (hn : xa_lineCount u = nI n) (n60 : n ≤ 60)
    (hp : ∀ r fc bo eo el fl, fm_res (xa_kinds u) n r → (r = -1 → fm_A (xa_kinds u) n fc bo eo el fl) → post r (fm_w u fc bo eo el fl)) :
    ∀ d i fc bo eo el fl, i + d = n → (∀ j, j < i → fm_ok (xa_kinds u) j) → fm_A (xa_kinds u) i fc bo eo el fl → ∀ m, d < m → cx_formFault_9 post m (st_h (st_s (xa_kinds u) i)) (nI i) (fm_w u fc bo eo el fl) := by
  intro d
  induction d with
  | zero =>
    intro i fc bo eo el fl hi hok hA m hm
    obtain ⟨m, rfl⟩ : ∃ q, m = q + 1 := ⟨m - 1, by omega⟩
    have e : i = n := by omega
    subst e
    rw [ux_formFault_9]
    have hl : xa_lineCount (fm_w u fc bo eo el fl) = nI i := hn
    rw [hl]
    refine br_t (nI_le (Nat.le_refl _) (by omega)) ?_
    cases e2 : st_s (xa_kinds u) i with
    | nil =>
      refine br_t rfl ?_
      by_cases z : i = 0
      · exact br_t (by rw [z]; decide) (hp _ _ _ _ _ _ (Or.inr ⟨hok, Or.inr ⟨fun w => by omega, rfl⟩⟩) (fun w => absurd w (ne_m1 (by omega))))
      · exact br_f (nI_nle (by omega) (by omega)) (hp _ _ _ _ _ _ (Or.inr ⟨hok, Or.inl ⟨e2, by omega, rfl⟩⟩) (fun _ => hA))
    | cons o r =>
      have ho := (st_lt (K := xa_kinds u) (i := i) (b := o) (by rw [e2]; exact List.mem_cons_self)).1
      exact br_f (ne_m1 (by omega)) (hp _ _ _ _ _ _ (Or.inr ⟨hok, Or.inr ⟨fun w => absurd (e2.symm.trans w.1) (List.cons_ne_nil _ _), rfl⟩⟩) (fun w => absurd w (ne_m1 (by omega))))
  | succ d ih =>
    intro i fc bo eo el fl hi hok hA m hm
    obtain ⟨m, rfl⟩ : ∃ q, m = q + 1 := ⟨m - 1, by omega⟩
    obtain ⟨A1, A2, A3, A4, A5, A6⟩ := hA
    have ci : (nI i).toNatClampNeg = i := nI_clamp (by omega)
    rw [ux_formFault_9]
    have hl : xa_lineCount (fm_w u fc bo eo el fl) = nI n := hn
    rw [hl]
    refine br_f (nI_ge (by omega) (by omega)) (xf_fits (u := fm_w u fc bo eo el fl) n60 (by omega) A1 A3 (fun ok => br_f (by decide) ?_) (fun nok => br_t rfl ?_))
    · have ok : fm_ok (xa_kinds u) i := ok
      have F := fm_F ok
      have FF : st_F (xa_kinds u) (i + 1) := fun j hj => by
        by_cases z : j = i
        · subst z; exact F
        · exact fm_F (hok j (by omega))
      have hok' : ∀ j, j < i + 1 → fm_ok (xa_kinds u) j := fun j hj => by
        by_cases z : j = i
        · subst z; exact ok
        · exact hok j (by omega)
      refine ⟨vp_in_nI (by omega) (by decide), nm_r (show _ = xa_kinds u i by rw [ci]; rfl) ⟨vp_in_nI (by omega) (by decide), nm_r (show _ = upd bo i (st_h (st_s (xa_kinds u) i)) by rw [ci]; rfl) ⟨vp_in_nI (by omega) (by decide), nm_r (show _ = upd el i (-1) by rw [ci]; rfl) ?_⟩⟩⟩
      by_cases k0 : xa_kinds u i = 0
      · have s0 := F.mp k0
        rw [s0] at A6
        have fb : st_f (xa_kinds u) i < 30 := by simp at A6; omega
        have efc : xa_functionCount (fm_w u fc bo eo el fl) = nI (st_f (xa_kinds u) i) := A5
        refine br_t k0 ?_
        rw [efc]
        refine ⟨vp_in_nI fb (by decide), nm_r (show _ = upd fl (st_f (xa_kinds u) i) (nI i) by rw [nI_clamp (by omega)]; rfl) (nm_r (nI_1 _) ?_)⟩
        rw [fm_n2, ux_formFault_73]
        refine br_f (by rw [k0]; decide) ?_
        rw [ux_formFault_85]
        refine br_f (by rw [k0]; decide) (xj_104 (fun _ => ?_) (fun w => absurd (Or.inl k0) w))
        have key := ih (i + 1) (nI (st_f (xa_kinds u) i + 1)) (upd bo i (st_h (st_s (xa_kinds u) i))) eo (upd el i (-1)) (upd fl (st_f (xa_kinds u) i) (nI i)) (by omega) hok'
          ⟨fm_a1 A1, fm_a2 A2 (by rw [k0]; decide), fm_a3 A3 (by rw [k0]; decide), fm_a4' A4, by rw [fm_f1 k0], by rw [fm_f1 k0, st_opn (Or.inl k0)]; simp at A6 ⊢; omega⟩ m (by omega)
        rw [st_opn (Or.inl k0)] at key
        exact key
      · refine br_f k0 ?_
        rw [fm_n1]
        cases e2 : st_s (xa_kinds u) i with
        | nil => exact absurd (F.mpr e2) k0
        | cons o r =>
          have ho := (st_lt (K := xa_kinds u) (i := i) (b := o) (by rw [e2]; exact List.mem_cons_self)).1
          have co : (nI o).toNatClampNeg = o := nI_clamp (by omega)
          have B1 := fm_a1 A1
          rw [e2] at B1
          show cx_formFault_73 post _ (nI o) (nI i) (xa_kinds u i) (fm_w u fc (upd bo i (nI o)) eo (upd el i (-1)) fl)
          by_cases k3 : xa_kinds u i = 3
          · rw [ux_formFault_73]
            refine br_t k3 ⟨vp_in_nI (by omega) (by decide), nm_r (show _ = upd (upd el i (-1)) o (nI i) by rw [co]; rfl) ?_⟩
            rw [fm_n3, ux_formFault_85]
            have n1 : ¬ xa_kinds u i = 1 := by rw [k3]; decide
            have nop : ¬ st_op (xa_kinds u i) := by rw [k3]; decide
            refine br_f n1 (xj_104 (fun w => absurd w nop) (fun _ => ?_))
            have key := ih (i + 1) fc (upd bo i (nI o)) eo (upd (upd el i (-1)) o (nI i)) fl (by omega) hok'
              ⟨B1, fm_a2 A2 n1, fm_a3' A3 k3 e2, fm_a4 A4 k0, by rw [fm_f0 k0]; exact A5, fm_a6 k0 F A6⟩ m (by omega)
            rw [st_oth n1 nop, e2] at key
            exact key
          · rw [ux_formFault_73]
            refine br_f k3 ?_
            rw [ux_formFault_85]
            by_cases k1 : xa_kinds u i = 1
            · refine br_t k1 ⟨vp_in_nI (by omega) (by decide), nm_r (show _ = upd eo o (nI i) by rw [co]; rfl) ⟨vp_in_nI (by omega) (by decide), nm_r (show _ = st_h r from ?_) ?_⟩⟩
              · rw [co]
                show upd bo i (nI o) o = _
                rw [pk_un (by omega), A1 o ho, st_hd e2]
              · rw [fm_n4]
                have nop : ¬ st_op (xa_kinds u i) := by rw [k1]; decide
                refine xj_104 (fun w => absurd w nop) (fun _ => ?_)
                have key := ih (i + 1) fc (upd bo i (nI o)) (upd eo o (nI i)) (upd el i (-1)) fl (by omega) hok'
                  ⟨B1, fm_a2' FF A2 k1 e2, fm_a3 A3 k3, fm_a4 A4 k0, by rw [fm_f0 k0]; exact A5, fm_a6 k0 F A6⟩ m (by omega)
                rw [st_end k1, e2] at key
                exact key
            · refine br_f k1 ?_
              have hA' : fm_A (xa_kinds u) (i + 1) fc (upd bo i (nI o)) eo (upd el i (-1)) fl := ⟨B1, fm_a2 A2 k1, fm_a3 A3 k3, fm_a4 A4 k0, by rw [fm_f0 k0]; exact A5, fm_a6 k0 F A6⟩
              have key := ih (i + 1) fc (upd bo i (nI o)) eo (upd el i (-1)) fl (by omega) hok' hA' m (by omega)
              refine xj_104 (fun w => ?_) (fun w => ?_)
              · rw [st_opn w] at key
                exact key
              · rw [st_oth k1 w, e2] at key
                exact key
    · exact hp _ _ _ _ _ _ (Or.inl ⟨i, by omega, hok, nok, rfl⟩) (fun w => absurd w (ne_m1 (by omega)))
theorem xf_form {post : Int32 → SX → Prop} {u : SX} {n : Nat} (hn : xa_lineCount u = nI n) (n60 : n ≤ 60)
    (hp : ∀ r fc bo eo el fl, fm_res (xa_kinds u) n r → (r = -1 → fm_A (xa_kinds u) n fc bo eo el fl) → post r (fm_w u fc bo eo el fl)) : wpX_formFault post u := by
  rw [ux_formFault, fm_n0]
  have key := xf_loop hn n60 hp n 0 (nI 0) (xa_blockOf u) (xa_endOf u) (xa_elseOf u) (xa_functionLine u) (by omega) (fun j hj => by omega)
    ⟨fun j hj => by omega, fun j hj => by omega, fun j hj => by omega, fun j hj => by omega, rfl, by show 2 * 0 ≤ _; omega⟩ (n + 1) (by omega)
  exact ⟨_, key⟩
