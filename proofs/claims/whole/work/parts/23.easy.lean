def i_Rel (k : Nat) (u : SX) (v : SY) : Prop := rl_base u v ∧ rl_obs u v ∧ (xa_state u = 1 → rl_full k u v)
theorem i_up {k : Nat} {u : SX} {v : SY} (h : i_Rel k u v) : i_Rel (k + 5) u v := sorry
theorem rl_obs0 {u : SX} {v : SY} (h1 : xa_goroutineCount u = 0) (h2 : xa_channelCount u = 0) : rl_obs u v := sorry
theorem i_vc0 : wpX_init (fun u => wpY_init (fun v => i_Rel 0 u v)) := sorry
theorem i_vc_clear {k : Nat} {u : SX} {v : SY} (I : i_Rel k u v) (hk : k + 5 ≤ 2560) : wpX_clear (fun r u' => wpY_clear (fun r' v' => r' = r ∧ i_Rel (k + 5) u' v') v) u := sorry
theorem i_vc_line {k : Nat} {u : SX} {v : SY} (I : i_Rel k u v) (hk : k + 5 ≤ 2560) (v1 : Int32) (v2 : Int32) (v3 : Int32) (v4 : Int32) : wpX_line (fun r u' => wpY_line (fun r' v' => r' = r ∧ i_Rel (k + 5) u' v') v v1 v2 v3 v4) u v1 v2 v3 v4 := sorry
theorem i_vc_badLine {k : Nat} {u : SX} {v : SY} (I : i_Rel k u v) (hk : k + 5 ≤ 2560) : wpX_badLine (fun r => wpY_badLine (fun r' => r' = r ∧ i_Rel (k + 5) u v) v) u := sorry
theorem i_vc_printed {k : Nat} {u : SX} {v : SY} (I : i_Rel k u v) (hk : k + 5 ≤ 2560) : wpX_printed (fun r => wpY_printed (fun r' => r' = r ∧ i_Rel (k + 5) u v) v) u := sorry
theorem i_vc_panicValue {k : Nat} {u : SX} {v : SY} (I : i_Rel k u v) (hk : k + 5 ≤ 2560) : wpX_panicValue (fun r => wpY_panicValue (fun r' => r' = r ∧ i_Rel (k + 5) u v) v) u := sorry
theorem i_vc_clock {k : Nat} {u : SX} {v : SY} (I : i_Rel k u v) (hk : k + 5 ≤ 2560) : wpX_clock (fun r => wpY_clock (fun r' => r' = r ∧ i_Rel (k + 5) u v) v) u := sorry
theorem i_vc_output {k : Nat} {u : SX} {v : SY} (I : i_Rel k u v) (hk : k + 5 ≤ 2560) (v1 : Int32) : wpX_output (fun r => wpY_output (fun r' => r' = r ∧ i_Rel (k + 5) u v) v v1) u v1 := sorry
theorem xg_top {g d : Nat} (hd : 0 < d) : ((nI g * 4) + nI d) - 1 = nI (4 * g + d - 1) := sorry
theorem yg_top {g d : Nat} (hd : 0 < d) : ((4 * nI g) + nI d) - 1 = nI (4 * g + d - 1) := sorry
theorem xg_topOf {post : Int32 → Prop} {u : SX} {g d : Nat} (hg : g < 12) (hd : 0 < d) (e : xa_depth u g = nI d) (h : post (nI (4 * g + d - 1))) : wpX_topOf post u (nI g) := sorry
theorem yg_topOf {post : Int32 → Prop} {v : SY} {g d : Nat} (hg : g < 12) (hd : 0 < d) (e : ya_depth v g = nI d) (h : post (nI (4 * g + d - 1))) : wpY_top post v (nI g) := sorry
/-- whether goroutine g has an activation: the same on both sides -/
theorem rl_act {k : Nat} {u : SX} {v : SY} (I : i_Rel k u v) (g : Int32) : (∀ (P : Int32 → Prop) (Q : Int32 → Prop), P 0 → Q 0 → wpX_hasActivation P u g ∧ wpY_active Q v g) ∨
    (∃ q d, q < 12 ∧ g = nI q ∧ 0 < d ∧ d ≤ 4 ∧ xa_depth u q = nI d ∧ ya_depth v q = nI d ∧ rl_og u v q ∧ ∀ (P : Int32 → Prop) (Q : Int32 → Prop), P 1 → Q 1 → wpX_hasActivation P u g ∧ wpY_active Q v g) := sorry
theorem i_vc_notes {k : Nat} {u : SX} {v : SY} (I : i_Rel k u v) (hk : k + 5 ≤ 2560) (v1 : Int32) : wpX_notes (fun r => wpY_notes (fun r' => r' = r ∧ i_Rel (k + 5) u v) v v1) u v1 := sorry
theorem i_vc_variable {k : Nat} {u : SX} {v : SY} (I : i_Rel k u v) (hk : k + 5 ≤ 2560) (v1 : Int32) (v2 : Int32) : wpX_variable (fun r => wpY_variable (fun r' => r' = r ∧ i_Rel (k + 5) u v) v v1 v2) u v1 v2 := sorry
