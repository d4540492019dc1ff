/-! run -/
theorem ex_all {W : Nat} {u : SX} {v : SY} {n S g j i : Nat} (E : ex_at W u v n S g j i) (nm : ¬ st_mk (xa_kinds u i)) : ex_x (W + 1) u v g i := by
  have E1 := at_up (Nat.le_succ W) E
  obtain ⟨q, hq, e⟩ := (E.1.1.2.1.2.2.2.2.2.1 i E.2.2.2.2.2.2).1
  rcases (show q = 0 ∨ q = 1 ∨ q = 2 ∨ q = 3 ∨ q = 4 ∨ q = 5 ∨ q = 6 ∨ q = 7 ∨ q = 8 ∨ q = 9 ∨ q = 10 ∨ q = 11 ∨ q = 12 ∨ q = 13 ∨ q = 14 ∨ q = 15 ∨ q = 16 ∨ q = 17 ∨ q = 18 ∨ q = 19 ∨ q = 20 ∨ q = 21 ∨ q = 22 ∨ q = 23 ∨ q = 24 ∨ q = 25 ∨ q = 26 ∨ q = 27 ∨ q = 28 ∨ q = 29 by omega) with z | z | z | z | z | z | z | z | z | z | z | z | z | z | z | z | z | z | z | z | z | z | z | z | z | z | z | z | z | z <;> subst z
  · exact ek_0 E1 e
  · exact absurd (show st_mk (xa_kinds u i) by rw [e]; decide) nm
  · exact ek_2 E1 e
  · exact absurd (show st_mk (xa_kinds u i) by rw [e]; decide) nm
  · exact ek_4 E1 e
  · exact ek_5 E1 e
  · exact ek_6 E e
  · exact absurd (show st_mk (xa_kinds u i) by rw [e]; decide) nm
  · exact absurd (show st_mk (xa_kinds u i) by rw [e]; decide) nm
  · exact absurd (show st_mk (xa_kinds u i) by rw [e]; decide) nm
  · exact ek_10 E e
  · exact ek_11 E e
  · exact ek_12 E1 e
  · exact ek_13 E1 e
  · exact ek_14 E1 e
  · exact ek_15 E1 e
  · exact ek_16 E1 e
  · exact ek_17 E1 e
  · exact ek_18 E1 e
  · exact ek_19 E1 e
  · exact ek_20 E1 e
  · exact ek_c E1 (Or.inl e)
  · exact ek_c E1 (Or.inr (Or.inl e))
  · exact ek_c E1 (Or.inr (Or.inr (Or.inl e)))
  · exact ek_c E1 (Or.inr (Or.inr (Or.inr (Or.inl e))))
  · exact ek_c E1 (Or.inr (Or.inr (Or.inr (Or.inr (Or.inl e)))))
  · exact ek_c E1 (Or.inr (Or.inr (Or.inr (Or.inr (Or.inr (Or.inl e))))))
  · exact ek_c E1 (Or.inr (Or.inr (Or.inr (Or.inr (Or.inr (Or.inr e))))))
  · exact ek_28 E e
  · exact absurd (show st_mk (xa_kinds u i) by rw [e]; decide) nm
theorem se_all {P : SX → Prop} {W k : Nat} {u u' : SX} {v' : SY} (h : mv k u u') (hk : k < 1000000) (F : rl_fin W u' v') (p : P u') : wpX_settle P u := by
  rw [ux_settle]
  refine ⟨1 + k, h P 1 0 (by omega) ?_⟩
  rcases F with ⟨⟨n, S, g, d, q, H, h1, h2, h3, h4, h5, h6⟩, s⟩ | F
  · exact mv_re (m := 0) (by omega) (mid_xr H s) H.1.2.1 h1 h4 h3 h6 p
  · exact mv_st (m := 0) (by omega) F.2.2 p
/-- one step -/
theorem st_all {W : Nat} {u : SX} {v : SY} (R : rl_rest W u v) (s : xa_state u = 1) (hW : (W + 1) * 2 ^ 31 < 2 ^ 63) :
    ∃ u' v', (∀ P : SX → Prop, P u' → wpX_execute (fun u6 => wpX_settle (fun u47 => P u47) u6) u) ∧ (∀ (post : Int32 → SY → Prop) (J : Int32 → SY → Prop) (x1 : Int32) (x2 : Nat), J (nI (x2 + 1)) v' → wpY_top (fun r_5 => (vp_in r_5 48 ∧ (∀ x3_48, x3_48 = (ya_pc v) r_5.toNatClampNeg → (wpY_execute (fun u50 => (∃ n58 : Nat, cy_run_58 post J x1 (nI x2) n58 0 u50)) v (ya_now v) x3_48)))) v (ya_now v)) ∧ rl_fin (W + 1) u' v' := by
  obtain ⟨n, S, g, d, p, H, h1, h2, h3, h4, h5, h6⟩ := R
  obtain ⟨j, rfl⟩ : ∃ j, d = j + 1 := ⟨d - 1, by have := H.2.2.2.2.2.1; omega⟩
  have hg := (mid_t H).2
  have j4 := H.2.2.2.2.2.2.1
  have d2 := H.2.2.2.2.2.2.2.2.1
  obtain ⟨k, u1, u2, v2, k1, k2, k3, k4, k5⟩ := ex_all (i := p) ⟨H, s, h1, h2, h4, h5, h3⟩ h6
  obtain ⟨k', u', v', i1, i2, i3, i4⟩ := nx_loop hW 13 u2 v2 0 k5 (by omega)
  refine ⟨u', v', fun P q => k2 _ (se_all (mv_t k3 i2) (by omega) i4 q), fun post J x1 x2 q => ?_, i4⟩
  rw [H.2.2.2.1]
  refine yg_topOf (d := j + 1) hg (by omega) d2 ?_
  rw [show 4 * g + (j + 1) - 1 = 4 * g + j from rfl, nI_clamp (show 4 * g + j < 2 ^ 31 by omega)]
  exact ⟨vp_in_nI (by omega) (by decide), nm_r h5 (k4 _ ⟨14, i3 post J x1 x2 14 (by omega) q⟩)⟩
theorem rest_obs {W : Nat} {u : SX} {v : SY} (R : rl_rest W u v) : rl_base u v ∧ rl_obs u v := by
  obtain ⟨n, S, g, d, p, H, h1, h2, h3, h4, h5, h6⟩ := R
  exact ⟨H.1.1, ob_mid H rfl rfl (fun g1 _ => fr_gx_r) (fun g1 _ => fr_gy_r) (og_me H.2.2.2.2.2 (by rw [h1, h2]; decide))⟩
theorem rest_up {W W' : Nat} {u : SX} {v : SY} (h : W ≤ W') (R : rl_rest W u v) : rl_rest W' u v := by
  obtain ⟨n, S, g, d, p, H, h1⟩ := R
  exact ⟨n, S, g, d, p, rl_mid_up h H, h1⟩
theorem rn_all {W s : Nat} (s200 : s ≤ 200) (hW : (W + 200) * 2 ^ 31 < 2 ^ 63) : ∀ d i u v, i + d = s → rl_fin (W + i) u v →
    ∃ u' v', (∀ (post : Int32 → SX → Prop) m, d < m → post (xa_state u') u' → cx_run_19 post (nI s) m (nI i) u) ∧ (∀ (post : Int32 → SY → Prop) m, d < m → post (ya_state v') v' → cy_run_19 post (nI s) m (nI i) v) ∧ rl_fin (W + s) u' v' := by
  have up : ∀ W' W'' (u : SX) (v : SY), W' ≤ W'' → rl_fin W' u v → rl_fin W'' u v := by
    intro W' W'' u v h F
    rcases F with ⟨F, s⟩ | F
    · exact Or.inl ⟨rest_up h F, s⟩
    · exact Or.inr F
  intro d
  induction d with
  | zero =>
    intro i u v hi F
    refine ⟨u, v, fun post m hm p => ?_, fun post m hm p => ?_, up _ _ _ _ (by omega) F⟩
    · obtain ⟨m, rfl⟩ : ∃ q, m = q + 1 := ⟨m - 1, by omega⟩
      rw [ux_run_19]
      exact br_t (nI_le (by omega) (by omega)) p
    · obtain ⟨m, rfl⟩ : ∃ q, m = q + 1 := ⟨m - 1, by omega⟩
      rw [uy_run_19]
      exact br_t (nI_le (by omega) (by omega)) p
  | succ d ih =>
    intro i u v hi F
    rcases F with ⟨F, st⟩ | F
    · have B6 : ya_state v = xa_state u := (rest_obs F).1.2.2.2.2.2.2.1
      have wb : (W + i + 1) * 2 ^ 31 ≤ (W + 200) * 2 ^ 31 := Nat.mul_le_mul_right _ (by omega)
      obtain ⟨u1, v1, a1, a2, a3⟩ := st_all F st (Nat.lt_of_le_of_lt wb hW)
      obtain ⟨u', v', b1, b2, b3⟩ := ih (i + 1) u1 v1 (by omega) a3
      refine ⟨u', v', fun post m hm p => ?_, fun post m hm p => ?_, b3⟩
      · obtain ⟨m, rfl⟩ : ∃ q, m = q + 1 := ⟨m - 1, by omega⟩
        rw [ux_run_19]
        exact br_f (nI_ge (by omega) (by omega)) (br_t st (a1 _ (nm_r (nI_1 _) (b1 post m (by omega) p))))
      · obtain ⟨m, rfl⟩ : ∃ q, m = q + 1 := ⟨m - 1, by omega⟩
        rw [uy_run_19]
        exact br_f (nI_ge (by omega) (by omega)) (br_t (B6.trans st) (a2 post _ _ i (b2 post m (by omega) p)))
    · have B6 : ya_state v = xa_state u := F.1.2.2.2.2.2.2.1
      refine ⟨u, v, fun post m hm p => ?_, fun post m hm p => ?_, Or.inr F⟩
      · obtain ⟨m, rfl⟩ : ∃ q, m = q + 1 := ⟨m - 1, by omega⟩
        rw [ux_run_19]
        exact br_f (nI_ge (by omega) (by omega)) (br_f F.2.2 p)
      · obtain ⟨m, rfl⟩ : ∃ q, m = q + 1 := ⟨m - 1, by omega⟩
        rw [uy_run_19]
        exact br_f (nI_ge (by omega) (by omega)) (br_f (by rw [B6]; exact F.2.2) p)
theorem i_vc_run {k : Nat} {u : SX} {v : SY} (I : i_Rel k u v) (hk : k + 5 ≤ 2560) (v1 : Int32) : wpX_run (fun r u' => wpY_run (fun r' v' => r' = r ∧ i_Rel (k + 5) u' v') v v1) u v1 := by
  have B6 : ya_state v = xa_state u := I.1.2.2.2.2.2.2.1
  have U := i_up I
  rw [ux_run]
  by_cases h1 : v1 < 1
  · refine br_t h1 ?_
    rw [uy_run]
    exact br_t h1 ⟨B6, U⟩
  · refine br_f h1 ?_
    by_cases h2 : v1 ≤ 200
    · have h0 : ¬ v1 < 0 := fun z => h1 (Int32.lt_trans z (by decide))
      obtain ⟨s, s1, s2⟩ := rg_le (x := v1) (N := 200) (by decide) h0 (Int32.not_lt.mpr h2)
      subst s2
      have F : rl_fin (40 * k + 0) u v := by
        by_cases st : xa_state u = 1
        · exact Or.inl ⟨I.2.2 st, st⟩
        · exact Or.inr ⟨I.1, I.2.1, st⟩
      obtain ⟨u', v', a1, a2, a3⟩ := rn_all (W := 40 * k) (s := s) (by omega) (by omega) s 0 u v (by omega) F
      refine br_t h2 ⟨s + 1, a1 _ (s + 1) (by omega) ?_⟩
      rw [uy_run]
      refine br_f h1 (br_t h2 ⟨s + 1, a2 _ (s + 1) (by omega) ?_⟩)
      rcases a3 with ⟨a3, st⟩ | a3
      · obtain ⟨b1, b2⟩ := rest_obs a3
        exact ⟨b1.2.2.2.2.2.2.1, b1, b2, fun _ => rest_up (by omega) a3⟩
      · exact ⟨a3.1.2.2.2.2.2.2.1, a3.1, a3.2.1, fun z => absurd z a3.2.2⟩
    · refine br_f h2 ?_
      rw [uy_run]
      exact br_f h1 (br_f h2 ⟨B6, U⟩)
