/-! check: Y -/
theorem fm_sgn {K : Nat → Int32} {n : Nat} {r : Int32} (n60 : n ≤ 60) (h : fm_res K n r) (nr : ¬ r = -1) : ¬ r < 0 := by
  rcases h with ⟨i, a, _, _, d⟩ | ⟨_, ⟨_, _, d⟩ | ⟨_, d⟩⟩
  · rw [d]; exact nI_pos (by omega)
  · exact absurd d nr
  · rw [d]; exact nI_pos (by omega)
theorem ce_sgn {K A : Nat → Int32} {F n : Nat} {r : Int32} (n60 : n ≤ 60) (h : ce_res K A F n r) (nr : ¬ r = -1) : ¬ r < 0 := by
  rcases h with ⟨i, a, _, _, _, d⟩ | ⟨_, d⟩
  · rw [d]; exact nI_pos (by omega)
  · exact absurd d nr
theorem un_sgn {K A B C : Nat → Int32} {n : Nat} {r : Int32} (n60 : n ≤ 60) (h : un_res K A B C n r) (nr : ¬ r = -1) : ¬ r < 0 := by
  rcases h with ⟨i, a, _, _, d⟩ | ⟨_, d⟩
  · rw [d]; exact nI_pos (by omega)
  · exact absurd d nr
theorem yk_form {post : Int32 → SY → Prop} {v : SY} {n : Nat} {r : Int32} (hn : ya_lines v = nI n) (n60 : n ≤ 60) (hr : fm_res (ya_kind v) n r) (nr : ¬ r = -1) (h : ∀ w op sn, rl_idy v w → post 1 (ys_bad (fm_v w op sn) r)) : wpY_check post v := by
  rw [uy_check]
  refine yi_gen (fun w hw => yf_form (v := w) (hw.1.trans hn) n60 (fun r' op sn hr' => ?_))
  rw [hw.2.1] at hr'
  have e := fm_uniq hr hr'
  subst e
  exact br_f (fm_sgn n60 hr nr) (h w op sn hw)
