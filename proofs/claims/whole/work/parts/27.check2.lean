/-! check -/
def ck_v0 (v : SY) (st dp rs sh : Nat → Int32) : SY := yz_b (yz_a (ys_state v 0) st dp rs sh)
theorem fm_sgn {K : Nat → Int32} {n : Nat} {r : Int32} (n60 : n ≤ 60) (h : fm_res K n r) (nr : ¬ r = -1) : ¬ r < 0 := by
  rcases h with ⟨i, a, _, _, d⟩ | ⟨_, ⟨_, _, d⟩ | ⟨_, d⟩⟩
  · rw [d]; exact nI_pos (by omega)
  · exact absurd d nr
  · rw [d]; exact nI_pos (by omega)
theorem ce_sgn {K A : Nat → Int32} {F n : Nat} {r : Int32} (n60 : n ≤ 60) (h : ce_res K A F n r) (nr : ¬ r = -1) : ¬ r < 0 := by
  rcases h with ⟨i, a, _, _, _, d⟩ | ⟨_, d⟩
  · rw [d]; exact nI_pos (by omega)
  · exact absurd d nr
theorem un_sgn {K A B C : Nat → Int32} {n : Nat} {r : Int32} (n60 : n ≤ 60) (h : un_res K A B C n r) (nr : ¬ r = -1) : ¬ r < 0 := by
  rcases h with ⟨i, a, _, _, d⟩ | ⟨_, d⟩
  · rw [d]; exact nI_pos (by omega)
  · exact absurd d nr
theorem yk_form {post : Int32 → SY → Prop} {v : SY} {n : Nat} {r : Int32} (hn : ya_lines v = nI n) (n60 : n ≤ 60) (hr : fm_res (ya_kind v) n r) (nr : ¬ r = -1) (h : ∀ st dp rs sh op sn, rl_fresh st dp rs sh 0 → post 1 (ys_bad (fm_v (ck_v0 v st dp rs sh) op sn) r)) : wpY_check post v := by
  rw [uy_check]
  refine yi_idle (fun st dp rs sh hf => yf_form (v := ck_v0 v st dp rs sh) hn n60 (fun r' op sn hr' => ?_))
  have hr2 : fm_res (ya_kind v) n r' := hr'
  have e := fm_uniq hr hr2
  subst e
  exact br_f (fm_sgn n60 hr nr) (h st dp rs sh op sn hf)
theorem yk_callee {post : Int32 → SY → Prop} {v : SY} {n : Nat} {r : Int32} (hn : ya_lines v = nI n) (n60 : n ≤ 60) (hr : fm_res (ya_kind v) n (-1)) (F60 : st_f (ya_kind v) n ≤ 60) (hl : ∀ i, i < n → ln_go (ya_kind v i) → ∃ p, p < 30 ∧ ya_opA v i = nI p)
    (hc : ce_res (ya_kind v) (ya_opA v) (st_f (ya_kind v) n) n r) (nr : ¬ r = -1) (h : ∀ st dp rs sh op sn, rl_fresh st dp rs sh 0 → post 2 (ys_bad (ys_bad (fm_v (ck_v0 v st dp rs sh) op sn) (-1)) r)) : wpY_check post v := by
  rw [uy_check]
  refine yi_idle (fun st dp rs sh hf => yf_form (v := ck_v0 v st dp rs sh) hn n60 (fun r' op sn hr' => ?_))
  have hr2 : fm_res (ya_kind v) n r' := hr'
  have e := fm_uniq hr hr2
  subst e
  refine br_t (by decide) (yc_callee (v := ys_bad (fm_v (ck_v0 v st dp rs sh) op sn) (-1)) hn n60 rfl F60 hl (fun r2 hc' => ?_))
  have hc2 : ce_res (ya_kind v) (ya_opA v) (st_f (ya_kind v) n) n r2 := hc'
  have e := ce_uniq hc hc2
  subst e
  exact br_f (ce_sgn n60 hc nr) (h st dp rs sh op sn hf)
theorem yk_unset {post : Int32 → SY → Prop} {v : SY} {n : Nat} {r : Int32} (T : sy_st v n) (hr : fm_res (ya_kind v) n (-1)) (hl : ∀ i, i < n → ln_go (ya_kind v i) → ∃ p, p < 30 ∧ ya_opA v i = nI p)
    (hc : ce_res (ya_kind v) (ya_opA v) (st_f (ya_kind v) n) n (-1)) (hu : un_res (ya_kind v) (ya_opA v) (ya_opB v) (ya_opC v) n r)
    (h1 : ¬ r = -1 → ∀ st dp rs sh op sn U, rl_fresh st dp rs sh 0 → post 3 (ys_bad (ys_unset (ys_bad (ys_bad (fm_v (ck_v0 v st dp rs sh) op sn) (-1)) (-1)) U) r))
    (h0 : r = -1 → ∀ st dp rs sh op sn U, rl_fresh st dp rs sh 0 → wpY_start (fun u173 => post 0 (ys_queued u173 0)) (ys_state (ys_bad (ys_unset (ys_bad (ys_bad (fm_v (ck_v0 v st dp rs sh) op sn) (-1)) (-1)) U) r) 1) 0 0 0) : wpY_check post v := by
  have n60 := T.2.1.1
  have F30 := T.2.2.2.2.2.2
  rw [uy_check]
  refine yi_idle (fun st dp rs sh hf => yf_form (v := ck_v0 v st dp rs sh) T.1 n60 (fun r' op sn hr' => ?_))
  have hr2 : fm_res (ya_kind v) n r' := hr'
  have e := fm_uniq hr hr2
  subst e
  refine br_t (by decide) (yc_callee (v := ys_bad (fm_v (ck_v0 v st dp rs sh) op sn) (-1)) T.1 n60 rfl (show st_f (ya_kind v) n ≤ 60 by omega) hl (fun r2 hc' => ?_))
  have hc2 : ce_res (ya_kind v) (ya_opA v) (st_f (ya_kind v) n) n r2 := hc'
  have e := ce_uniq hc hc2
  subst e
  refine br_t (by decide) (yl_unset (v := ys_bad (ys_bad (fm_v (ck_v0 v st dp rs sh) op sn) (-1)) (-1)) T (fun r3 U hu' => ?_))
  have hu2 : un_res (ya_kind v) (ya_opA v) (ya_opB v) (ya_opC v) n r3 := hu'
  have e := un_uniq hu hu2
  subst e
  exact br_c (fun z => h0 (by
    by_cases w : r3 = -1
    · exact w
    · exact absurd z (un_sgn n60 hu w)) st dp rs sh op sn U hf) (fun z => h1 (fun w => z (by rw [w]; decide)) st dp rs sh op sn U hf)
