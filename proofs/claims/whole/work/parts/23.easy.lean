def i_Rel (k : Nat) (u : SX) (v : SY) : Prop := rl_base u v ∧ rl_obs u v ∧ (xa_state u = 1 → rl_full k u v)
theorem i_up {k : Nat} {u : SX} {v : SY} (h : i_Rel k u v) : i_Rel (k + 5) u v := ⟨h.1, h.2.1, fun s => rl_full_up (h.2.2 s)⟩
theorem rl_obs0 {u : SX} {v : SY} (h1 : xa_goroutineCount u = 0) (h2 : xa_channelCount u = 0) : rl_obs u v := ⟨0, 0, by omega, h1, by omega, h2, fun g hg => by omega⟩
theorem i_vc0 : wpX_init (fun u => wpY_init (fun v => i_Rel 0 u v)) := by
  unfold wpX_init wpY_init
  refine xz_p ?_
  refine ⟨⟨⟨0, by omega, rfl, rfl, fun i hi => by omega⟩, rfl, rfl, rfl, rfl, rfl, rfl, rfl, rfl, rfl, rfl, rfl, rfl, rfl, rfl, rfl, rfl, rfl, rfl, rfl, rfl, rfl, rfl⟩, rl_obs0 rfl rfl, fun s => ?_⟩
  exact absurd s (by decide)
theorem i_vc_clear {k : Nat} {u : SX} {v : SY} (I : i_Rel k u v) (hk : k + 5 ≤ 2560) : wpX_clear (fun r u' => wpY_clear (fun r' v' => r' = r ∧ i_Rel (k + 5) u' v') v) u := by
  obtain ⟨⟨⟨n, n60, e1, e2, L⟩, B1, B2, B3, B4, B5, B6, B7, B8, B9, B10, B11, B12, B13, B14, B15, B16, B17, B18, B19, B20, B21, B22⟩, O, FF⟩ := I
  rw [ux_clear]
  refine xz_p ?_
  rw [uy_clear]
  refine yi_idle (fun st dp rs sh hf => ⟨e2.trans e1.symm, ⟨⟨0, by omega, rfl, rfl, fun i hi => by omega⟩, B1, B2, B3, B4, B5, rfl, rfl, rfl, B9, rfl, rfl, B12, B13, B14, rfl, rfl, rfl, B18, B19, B20, B21, B22⟩, rl_obs0 rfl rfl, fun s => ?_⟩)
  have s' : (0 : Int32) = 1 := s
  exact absurd s' (by decide)
theorem i_vc_line {k : Nat} {u : SX} {v : SY} (I : i_Rel k u v) (hk : k + 5 ≤ 2560) (v1 : Int32) (v2 : Int32) (v3 : Int32) (v4 : Int32) : wpX_line (fun r u' => wpY_line (fun r' v' => r' = r ∧ i_Rel (k + 5) u' v') v v1 v2 v3 v4) u v1 v2 v3 v4 := by
  have I' := i_up I
  obtain ⟨⟨⟨n, n60, e1, e2, L⟩, B1, B2, B3, B4, B5, B6, B7, B8, B9, B10, B11, B12, B13, B14, B15, B16, B17, B18, B19, B20, B21, B22⟩, O, FF⟩ := I
  rw [ux_line, e1]
  by_cases z : n = 60
  · subst z
    refine br_t (by decide) ?_
    rw [uy_line, e2]
    exact br_t rfl ⟨rfl, I'⟩
  · have n1 : ¬ nI n = 60 := fun w => z ((nI_eq (b := 60) (by omega) (by decide)).mp w)
    refine br_f (nI_ge (b := 60) (by omega) (by decide)) (br_c (fun lo => ?_) (fun lo => br_c (fun hi => ?_) (fun hi => ?_)))
    · rw [uy_line, e2]
      exact br_f n1 (br_t lo ⟨rfl, I'⟩)
    · have hq : ∃ q, q < 30 ∧ v1 = nI q := rg_le (N := 29) (by decide) lo (Int32.not_lt.mpr hi)
      have vn : vp_in (nI n) 60 := vp_in_nI (by omega) (by decide)
      have cn : (nI n).toNatClampNeg = n := nI_clamp (by omega)
      refine xl_args (b := v3) hq (fun ok => br_f (by decide) ⟨vn, nm_e ⟨vn, nm_e ⟨vn, nm_e ⟨vn, nm_e (nm_r (nI_1 _) (xz_p ?_))⟩⟩⟩⟩) (fun nok => br_t rfl ?_)
      · refine yl_line e2 n1 lo hi (fun _ => ?_) (fun nok => absurd ok nok)
        rw [uy_line_114, e2]
        refine ⟨vn, nm_e ⟨vn, nm_e ⟨vn, nm_e (nm_r (nI_1 _) ⟨vn, nm_e (yi_idle (fun st dp rs sh hf => ⟨rfl, ⟨⟨n + 1, by omega, rfl, rfl, fun i hi' => ?_⟩, ?_, ?_, ?_, ?_, B5, rfl, rfl, rfl, B9, rfl, rfl, B12, B13, B14, rfl, rfl, rfl, B18, B19, B20, B21, B22⟩, rl_obs0 rfl rfl, fun s => ?_⟩))⟩)⟩⟩⟩
        · show ln_ok (upd (xa_kinds u) (nI n).toNatClampNeg v1 i) (upd (xa_argA u) (nI n).toNatClampNeg v2 i) (upd (xa_argB u) (nI n).toNatClampNeg v3 i) (upd (xa_argC u) (nI n).toNatClampNeg v4 i)
          rw [cn]
          by_cases e : i = n
          · subst e; rw [pk_us, pk_us, pk_us, pk_us]; exact ok
          · rw [pk_un e, pk_un e, pk_un e, pk_un e]; exact L i (by omega)
        · show upd (ya_kind v) _ _ = upd (xa_kinds u) _ _
          obtain ⟨q, hq1, rfl⟩ := hq
          rw [B1, nb_64 q (by omega)]
        · show upd (ya_opA v) _ _ = upd (xa_argA u) _ _
          rw [B2]
        · show upd (ya_opB v) _ _ = upd (xa_argB u) _ _
          rw [B3]
        · show upd (ya_opC v) _ _ = upd (xa_argC u) _ _
          rw [B4]
        · have s' : (0 : Int32) = 1 := s
          exact absurd s' (by decide)
      · exact yl_line e2 n1 lo hi (fun ok => absurd ok nok) (fun _ => ⟨rfl, I'⟩)
    · rw [uy_line, e2]
      exact br_f n1 (br_f lo (br_f hi ⟨rfl, I'⟩))
theorem i_vc_badLine {k : Nat} {u : SX} {v : SY} (I : i_Rel k u v) (hk : k + 5 ≤ 2560) : wpX_badLine (fun r => wpY_badLine (fun r' => r' = r ∧ i_Rel (k + 5) u v) v) u := by
  rw [ux_badLine, uy_badLine]
  exact ⟨I.1.2.2.2.2.2.1, i_up I⟩
theorem i_vc_printed {k : Nat} {u : SX} {v : SY} (I : i_Rel k u v) (hk : k + 5 ≤ 2560) : wpX_printed (fun r => wpY_printed (fun r' => r' = r ∧ i_Rel (k + 5) u v) v) u := by
  rw [ux_printed, uy_printed]
  exact ⟨I.1.2.2.2.2.2.2.2.2.1, i_up I⟩
theorem i_vc_panicValue {k : Nat} {u : SX} {v : SY} (I : i_Rel k u v) (hk : k + 5 ≤ 2560) : wpX_panicValue (fun r => wpY_panicValue (fun r' => r' = r ∧ i_Rel (k + 5) u v) v) u := by
  rw [ux_panicValue, uy_panicValue]
  exact ⟨I.1.2.2.2.2.2.2.2.2.2.2.1, i_up I⟩
theorem i_vc_clock {k : Nat} {u : SX} {v : SY} (I : i_Rel k u v) (hk : k + 5 ≤ 2560) : wpX_clock (fun r => wpY_clock (fun r' => r' = r ∧ i_Rel (k + 5) u v) v) u := by
  rw [ux_clock, uy_clock]
  exact ⟨I.1.2.2.2.2.2.2.2.1, i_up I⟩
theorem i_vc_output {k : Nat} {u : SX} {v : SY} (I : i_Rel k u v) (hk : k + 5 ≤ 2560) (v1 : Int32) : wpX_output (fun r => wpY_output (fun r' => r' = r ∧ i_Rel (k + 5) u v) v v1) u v1 := by
  have I' := i_up I
  obtain ⟨⟨⟨n, n60, e1, e2, L⟩, B1, B2, B3, B4, B5, B6, B7, B8, B9, B10, B11, B12, B13, B14, B15, B16, B17, B18, B19, B20, B21, B22⟩, O, FF⟩ := I
  have e31 : 31 < v1 ↔ (32 : Int32) ≤ v1 := by
    rw [Int32.lt_iff_toInt_lt, Int32.le_iff_toInt_le, show (31 : Int32).toInt = 31 from rfl, show (32 : Int32).toInt = 32 from rfl]
    omega
  have vi : ∀ x : Int32, vp_in (x &&& 31) 32 := fun x => pk_andIn x 5 (by decide) (by decide)
  rw [ux_output]
  refine br_c (fun a => ?_) (fun a => br_c (fun b => ?_) (fun b => br_c (fun c => ⟨vi _, ?_⟩) (fun c => ?_))) <;> rw [uy_output, e31, B8, B9]
  · exact br_t a ⟨rfl, I'⟩
  · exact br_f a (br_t b ⟨rfl, I'⟩)
  · exact br_f a (br_f b (br_t c ⟨vi _, rfl, I'⟩))
  · exact br_f a (br_f b (br_f c ⟨rfl, I'⟩))
theorem xg_top {g d : Nat} (hd : 0 < d) : ((nI g * 4) + nI d) - 1 = nI (4 * g + d - 1) := by
  obtain ⟨e, rfl⟩ : ∃ e, d = e + 1 := ⟨d - 1, by omega⟩
  rw [xe_top]; exact congrArg nI (by omega)
theorem yg_top {g d : Nat} (hd : 0 < d) : ((4 * nI g) + nI d) - 1 = nI (4 * g + d - 1) := by
  rw [show (4 : Int32) = nI 4 from rfl, pk_mul, nI_add, show (1 : Int32) = nI 1 from rfl, pk_sub (by omega)]
theorem xg_topOf {post : Int32 → Prop} {u : SX} {g d : Nat} (hg : g < 12) (hd : 0 < d) (e : xa_depth u g = nI d) (h : post (nI (4 * g + d - 1))) : wpX_topOf post u (nI g) := by
  rw [ux_topOf, nI_clamp (by omega), e, xg_top hd]
  exact ⟨vp_in_nI hg (by decide), h⟩
theorem yg_topOf {post : Int32 → Prop} {v : SY} {g d : Nat} (hg : g < 12) (hd : 0 < d) (e : ya_depth v g = nI d) (h : post (nI (4 * g + d - 1))) : wpY_top post v (nI g) := by
  rw [uy_top, nI_clamp (by omega), e, yg_top hd]
  exact ⟨vp_in_nI hg (by decide), h⟩
/-- whether goroutine g has an activation: the same on both sides -/
theorem rl_act {k : Nat} {u : SX} {v : SY} (I : i_Rel k u v) (g : Int32) : (∀ (P : Int32 → Prop) (Q : Int32 → Prop), P 0 → Q 0 → wpX_hasActivation P u g ∧ wpY_active Q v g) ∨
    (∃ q d, q < 12 ∧ g = nI q ∧ 0 < d ∧ d ≤ 4 ∧ xa_depth u q = nI d ∧ ya_depth v q = nI d ∧ rl_og u v q ∧ ∀ (P : Int32 → Prop) (Q : Int32 → Prop), P 1 → Q 1 → wpX_hasActivation P u g ∧ wpY_active Q v g) := by
  obtain ⟨⟨_, B1, B2, B3, B4, B5, B6, B7, B8, B9, B10, B11, B12, B13, B14, B15, B16, B17, B18, B19, B20, B21, B22⟩, ⟨S, c, hS, eS, hc, ec, O⟩, FF⟩ := I
  by_cases h0 : g < 0
  · refine Or.inl (fun P Q p q => ?_)
    rw [ux_hasActivation, uy_active]
    exact ⟨br_t h0 p, br_t h0 q⟩
  · by_cases h1 : xa_goroutineCount u ≤ g
    · refine Or.inl (fun P Q p q => ?_)
      rw [ux_hasActivation, uy_active, B15]
      exact ⟨br_f h0 (br_t h1 p), br_f h0 (br_t h1 q)⟩
    · have h1' := h1
      rw [eS] at h1'
      obtain ⟨q, hq, rfl⟩ := rg_lt (by omega) h0 h1'
      have og := O q hq
      obtain ⟨d, d4, e1, e2, _⟩ := id og
      have cq : (nI q).toNatClampNeg = q := nI_clamp (by omega)
      have vq : vp_in (nI q) 12 := vp_in_nI (by omega) (by decide)
      by_cases hd : d = 0
      · refine Or.inl (fun P Q p q' => ?_)
        rw [ux_hasActivation, uy_active, B15, cq, e1, e2, hd]
        exact ⟨br_f h0 (br_f h1 ⟨vq, br_t (by decide) p⟩), br_f h0 (br_f h1 ⟨vq, br_t (by decide) q'⟩)⟩
      · refine Or.inr ⟨q, d, by omega, rfl, by omega, d4, e1, e2, og, fun P Q p q' => ?_⟩
        rw [ux_hasActivation, uy_active, B15, cq, e1, e2]
        exact ⟨br_f h0 (br_f h1 ⟨vq, br_f (nI_nle (by omega) (by omega)) p⟩), br_f h0 (br_f h1 ⟨vq, br_f (nI_nle (by omega) (by omega)) q'⟩)⟩
theorem i_vc_notes {k : Nat} {u : SX} {v : SY} (I : i_Rel k u v) (hk : k + 5 ≤ 2560) (v1 : Int32) : wpX_notes (fun r => wpY_notes (fun r' => r' = r ∧ i_Rel (k + 5) u v) v v1) u v1 := by
  have I' := i_up I
  have B19 := I.1.2.2.2.2.2.2.2.2.2.2.2.2.2.2.2.2.2.2.2.1
  rw [ux_notes]
  rcases rl_act I v1 with h | ⟨q, d, hq, rfl, d0, d4, e1, e2, og, h⟩
  · refine (h _ (fun _ => True) (br_t rfl ?_) True.intro).1
    rw [uy_notes]
    exact (h (fun _ => True) _ True.intro (br_t rfl ⟨rfl, I'⟩)).2
  · refine (h _ (fun _ => True) (br_f (by decide) (xg_topOf hq d0 e1 ⟨vp_in_nI (by omega) (by decide), ?_⟩)) True.intro).1
    rw [uy_notes]
    refine (h (fun _ => True) _ True.intro (br_f (by decide) (yg_topOf hq d0 e2 ⟨vp_in_nI (by omega) (by decide), ?_, I'⟩))).2
    rw [B19]
theorem i_vc_variable {k : Nat} {u : SX} {v : SY} (I : i_Rel k u v) (hk : k + 5 ≤ 2560) (v1 : Int32) (v2 : Int32) : wpX_variable (fun r => wpY_variable (fun r' => r' = r ∧ i_Rel (k + 5) u v) v v1 v2) u v1 v2 := by
  have I' := i_up I
  have B18 := I.1.2.2.2.2.2.2.2.2.2.2.2.2.2.2.2.2.2.2.1
  have e6 : v2 < 6 ↔ ¬ (6 : Int32) ≤ v2 := (Int32.not_le).symm
  rw [ux_variable]
  rcases rl_act I v1 with h | ⟨q, d, hq, rfl, d0, d4, e1, e2, og, h⟩
  · refine (h _ (fun _ => True) (br_t rfl ?_) True.intro).1
    rw [uy_variable]
    exact (h (fun _ => True) _ True.intro (br_t rfl ⟨rfl, I'⟩)).2
  · refine (h _ (fun _ => True) (br_f (by decide) (br_c (fun a => ?_) (fun a => br_c (fun b => ?_) (fun b => ?_)))) True.intro).1
    · rw [uy_variable]
      exact (h (fun _ => True) _ True.intro (br_f (by decide) (br_t a ⟨rfl, I'⟩))).2
    · obtain ⟨p, hp, rfl⟩ := rg_lt (N := 6) (by decide) a (e6.mp b)
      have b5 : ¬ 5 < nI p := fun z => e6.mp b (le5.mp z)
      refine xg_topOf hq d0 e1 ?_
      have ix : nI (4 * q + d - 1) * 6 + nI p = nI (6 * (4 * q + d - 1) + p) := by
        rw [show (6 : Int32) = nI 6 from rfl, pk_mul, nI_add]; exact congrArg nI (by omega)
      have iy : 6 * nI (4 * q + d - 1) + nI p = nI (6 * (4 * q + d - 1) + p) := by
        rw [show (6 : Int32) = nI 6 from rfl, pk_mul, nI_add]
      rw [ix]
      refine ⟨vp_in_nI (by omega) (by decide), ?_⟩
      rw [uy_variable]
      refine (h (fun _ => True) _ True.intro (br_f (by decide) (br_f a (br_f b5 (yg_topOf hq d0 e2 ?_))))).2
      rw [iy, B18]
      exact ⟨vp_in_nI (by omega) (by decide), rfl, I'⟩
    · rw [uy_variable]
      have b5 : 5 < v2 := le5.mpr (Int32.not_lt.mp b)
      exact (h (fun _ => True) _ True.intro (br_f (by decide) (br_f a (br_t b5 ⟨rfl, I'⟩)))).2
