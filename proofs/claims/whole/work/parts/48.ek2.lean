/-! the lines that set, note, leave -/
theorem at_e {W : Nat} {u : SX} {v : SY} {n S g j i : Nat} (E : ex_at W u v n S g j i) : ya_kind v = xa_kinds u ∧ ya_opA v = xa_argA u ∧ rl_val (ya_vars v) (4 * g + j) (ya_opA v i) = rl_val (xa_variables u) (4 * g + j) (xa_argA u i) ∧ rl_val (ya_vars v) (4 * g + j) (ya_opB v i) = rl_val (xa_variables u) (4 * g + j) (xa_argB u i) ∧ rl_val (ya_vars v) (4 * g + j) (ya_opC v i) = rl_val (xa_variables u) (4 * g + j) (xa_argC u i) := by
  obtain ⟨L0, B1, B2, B3, B4, B5, B6, B7, B8, B9, B10, B11, B12, B13, B14, B15, B16, B17, B18, B19, B20, B21, B22⟩ := E.1.1.1
  rw [B18, B2, B3, B4]
  exact ⟨B1, rfl, rfl, rfl, rfl⟩
/-- the state once the line has been left, as a variable -/
theorem at_g {W : Nat} {u : SX} {v : SY} {n S g j i : Nat} (E : ex_at W u v n S g j i) : ∃ w, xs_position u (upd (xa_position u) (4 * g + j) (nI (i + 1))) = w ∧ rl_mid W w v n S g (j + 1) ∧ xa_state w = 1 ∧ xa_mode w (4 * g + j) = 0 ∧ xa_position w (4 * g + j) = nI (i + 1) ∧ xa_kinds w = xa_kinds u ∧ xa_argA w = xa_argA u ∧ xa_argB w = xa_argB u ∧ xa_argC w = xa_argC u ∧ xa_variables w = xa_variables u := by
  obtain ⟨Hw, pw⟩ := at_w (q := i + 1) E
  exact ⟨xs_position u (upd (xa_position u) (4 * g + j) (nI (i + 1))), rfl, Hw, (E.2.1 : xb_state u = 1), (E.2.2.1 : xb_mode u (4 * g + j) = 0), pw, (rfl : xb_kinds u = xb_kinds u), (rfl : xb_argA u = xb_argA u), (rfl : xb_argB u = xb_argB u), (rfl : xb_argC u = xb_argC u), (rfl : xb_variables u = xb_variables u)⟩
/-- a variable is set and the line has been executed -/
theorem ex_var {W : Nat} {w : SX} {v : SY} {n S g j p q : Nat} {x : Int32} {A : (SX → Prop) → Prop} {B : (SY → Prop) → Prop} (H : rl_mid W w v n S g (j + 1)) (s : xa_state w = 1) (hm : xa_mode w (4 * g + j) = 0) (hp : ya_panics v (4 * g + j) = 0) (pw : xa_position w (4 * g + j) = nI q) (qn : q < n) (p6 : p < 6)
    (hA : ∀ P : SX → Prop, P (xs_variables w (upd (xa_variables w) (6 * (4 * g + j) + p) x)) → A P) (hB : ∀ P : SY → Prop, wpY_goOn P (ys_vars v (upd (ya_vars v) (6 * (4 * g + j) + p) x)) (nI g) (nI q) → B P) : ex_r W A B := by
  have s : xb_state w = 1 := s
  have hm : xb_mode w (4 * g + j) = 0 := hm
  have hp : yb_panics v (4 * g + j) = 0 := hp
  have pw : xb_position w (4 * g + j) = nI q := pw
  exact ex_go (mid_var (x := x) H p6) s hm hp pw qn qn rfl hA hB
/-- what the lines that set a variable need -/
theorem at_p {W : Nat} {u : SX} {v : SY} {n S g j i : Nat} (E : ex_at W u v n S g j i) (sets : ln_set (xa_kinds u i)) : ∃ p, p < 6 ∧ xa_argA u i = nI p ∧ ya_opA v i = nI p := by
  obtain ⟨p, p6, ep⟩ := (E.1.1.2.1.2.2.2.2.2.1 i E.2.2.2.2.2.2).2.2.1 sets
  exact ⟨p, p6, ep, by rw [(at_e E).2.1]; exact ep⟩
theorem ek_21 {W : Nat} {u : SX} {v : SY} {n S g j i : Nat} (E : ex_at W u v n S g j i) (k : xa_kinds u i = 21) : ex_x W u v g i := by
  obtain ⟨hg, j4, hr, d1, d2, i60, T, TY⟩ := at_f E
  obtain ⟨B1, B2, ea, eb, ec⟩ := at_e E
  obtain ⟨_, _, _, hp, hx, hy, hi⟩ := id E
  obtain ⟨w, hw, Hw, s, hm, pw, wk, wA, wB, wC, wv⟩ := at_g E
  have kY : ya_kind v i = 21 := by rw [B1]; exact k
  have kw : xa_kinds w i = 21 := by rw [wk]; exact k
  have nx := st_nx T.2.1 hi (by rw [k]; decide)
  have ht := (mid_t Hw).1
  obtain ⟨p, p6, ep, epY⟩ := at_p E (by rw [k]; decide)
  have epw : xa_argA w i = nI p := by rw [wA]; exact ep
  exact ex_var (x := rl_val (xa_variables u) (4 * g + j) (xa_argB u i)) Hw s hm hp pw nx p6 (fun P q => xx_21 hg j4 hr d1 hx i60 k (by rw [hw]; exact xq_21 ht i60 epw p6 kw q)) (fun P q => yy_21 hg j4 d2 i60 kY (yq_21 hg j4 d2 i60 kY epY p6 (br_f (by decide) (by rw [eb]; exact q))))
theorem ek_22 {W : Nat} {u : SX} {v : SY} {n S g j i : Nat} (E : ex_at W u v n S g j i) (k : xa_kinds u i = 22) : ex_x W u v g i := by
  obtain ⟨hg, j4, hr, d1, d2, i60, T, TY⟩ := at_f E
  obtain ⟨B1, B2, ea, eb, ec⟩ := at_e E
  obtain ⟨_, _, _, hp, hx, hy, hi⟩ := id E
  obtain ⟨w, hw, Hw, s, hm, pw, wk, wA, wB, wC, wv⟩ := at_g E
  have kY : ya_kind v i = 22 := by rw [B1]; exact k
  have kw : xa_kinds w i = 22 := by rw [wk]; exact k
  have nx := st_nx T.2.1 hi (by rw [k]; decide)
  have ht := (mid_t Hw).1
  obtain ⟨p, p6, ep, epY⟩ := at_p E (by rw [k]; decide)
  have epw : xa_argA w i = nI p := by rw [wA]; exact ep
  exact ex_var (x := rl_val (xa_variables u) (4 * g + j) (xa_argB u i) + rl_val (xa_variables u) (4 * g + j) (xa_argC u i)) Hw s hm hp pw nx p6 (fun P q => xx_22 hg j4 hr d1 hx i60 k (by rw [hw]; exact xq_22 ht i60 epw p6 kw q)) (fun P q => yy_22 hg j4 d2 i60 kY (yq_22 hg j4 d2 i60 kY epY p6 (br_f (by decide) (by rw [eb, ec]; exact q))))
theorem ek_23 {W : Nat} {u : SX} {v : SY} {n S g j i : Nat} (E : ex_at W u v n S g j i) (k : xa_kinds u i = 23) : ex_x W u v g i := by
  obtain ⟨hg, j4, hr, d1, d2, i60, T, TY⟩ := at_f E
  obtain ⟨B1, B2, ea, eb, ec⟩ := at_e E
  obtain ⟨_, _, _, hp, hx, hy, hi⟩ := id E
  obtain ⟨w, hw, Hw, s, hm, pw, wk, wA, wB, wC, wv⟩ := at_g E
  have kY : ya_kind v i = 23 := by rw [B1]; exact k
  have kw : xa_kinds w i = 23 := by rw [wk]; exact k
  have nx := st_nx T.2.1 hi (by rw [k]; decide)
  have ht := (mid_t Hw).1
  obtain ⟨p, p6, ep, epY⟩ := at_p E (by rw [k]; decide)
  have epw : xa_argA w i = nI p := by rw [wA]; exact ep
  exact ex_var (x := rl_val (xa_variables u) (4 * g + j) (xa_argB u i) - rl_val (xa_variables u) (4 * g + j) (xa_argC u i)) Hw s hm hp pw nx p6 (fun P q => xx_23 hg j4 hr d1 hx i60 k (by rw [hw]; exact xq_23 ht i60 epw p6 kw q)) (fun P q => yy_23 hg j4 d2 i60 kY (yq_23 hg j4 d2 i60 kY epY p6 (br_f (by decide) (by rw [eb, ec]; exact q))))
theorem ek_24 {W : Nat} {u : SX} {v : SY} {n S g j i : Nat} (E : ex_at W u v n S g j i) (k : xa_kinds u i = 24) : ex_x W u v g i := by
  obtain ⟨hg, j4, hr, d1, d2, i60, T, TY⟩ := at_f E
  obtain ⟨B1, B2, ea, eb, ec⟩ := at_e E
  obtain ⟨_, _, _, hp, hx, hy, hi⟩ := id E
  obtain ⟨w, hw, Hw, s, hm, pw, wk, wA, wB, wC, wv⟩ := at_g E
  have kY : ya_kind v i = 24 := by rw [B1]; exact k
  have kw : xa_kinds w i = 24 := by rw [wk]; exact k
  have nx := st_nx T.2.1 hi (by rw [k]; decide)
  have ht := (mid_t Hw).1
  obtain ⟨p, p6, ep, epY⟩ := at_p E (by rw [k]; decide)
  have epw : xa_argA w i = nI p := by rw [wA]; exact ep
  exact ex_var (x := rl_val (xa_variables u) (4 * g + j) (xa_argB u i) * rl_val (xa_variables u) (4 * g + j) (xa_argC u i)) Hw s hm hp pw nx p6 (fun P q => xx_24 hg j4 hr d1 hx i60 k (by rw [hw]; exact xq_24 ht i60 epw p6 kw q)) (fun P q => yy_24 hg j4 d2 i60 kY (yq_24 hg j4 d2 i60 kY epY p6 (br_f (by decide) (by rw [eb, ec]; exact q))))
theorem pl_0 {P : SY → Prop} {G : SY → Prop} {v : SY} {g : Nat} {x : Int32} (q : wpY_panic P v (nI g) x) : wpY_panic (fun w => ((0 : Int32) = 0 → P w) ∧ (¬ (0 : Int32) = 0 → G w)) v (nI g) x := by
  have e : (fun w => ((0 : Int32) = 0 → P w) ∧ (¬ (0 : Int32) = 0 → G w)) = P := by
    funext w
    exact propext ⟨fun z => z.1 rfl, fun z => br_t rfl z⟩
  rw [e]; exact q
theorem ek_25 {W : Nat} {u : SX} {v : SY} {n S g j i : Nat} (E : ex_at W u v n S g j i) (k : xa_kinds u i = 25) : ex_x W u v g i := by
  obtain ⟨hg, j4, hr, d1, d2, i60, T, TY⟩ := at_f E
  obtain ⟨B1, B2, ea, eb, ec⟩ := at_e E
  obtain ⟨_, _, _, hp, hx, hy, hi⟩ := id E
  obtain ⟨w, hw, Hw, s, hm, pw, wk, wA, wB, wC, wv⟩ := at_g E
  have kY : ya_kind v i = 25 := by rw [B1]; exact k
  have kw : xa_kinds w i = 25 := by rw [wk]; exact k
  have nx := st_nx T.2.1 hi (by rw [k]; decide)
  have ht := (mid_t Hw).1
  obtain ⟨p, p6, ep, epY⟩ := at_p E (by rw [k]; decide)
  have epw : xa_argA w i = nI p := by rw [wA]; exact ep
  by_cases c0 : rl_val (xa_variables u) (4 * g + j) (xa_argC u i) = 0
  · exact ex_pa (x := -3) Hw s (fun P q => xx_25 hg j4 hr d1 hx i60 k (by rw [hw]; exact xq_25 ht i60 epw p6 kw (fun _ => q) (fun z => absurd c0 z))) (fun P q => yy_25 hg j4 d2 i60 kY (yq_25 hg j4 d2 i60 kY epY p6 (fun _ => pl_0 q) (fun z => absurd (ec.trans c0) z)))
  · exact ex_var (x := rl_val (xa_variables u) (4 * g + j) (xa_argB u i) / rl_val (xa_variables u) (4 * g + j) (xa_argC u i)) Hw s hm hp pw nx p6 (fun P q => xx_25 hg j4 hr d1 hx i60 k (by rw [hw]; exact xq_25 ht i60 epw p6 kw (fun z => absurd z c0) (fun _ => q))) (fun P q => yy_25 hg j4 d2 i60 kY (yq_25 hg j4 d2 i60 kY epY p6 (fun z => absurd (ec.symm.trans z) c0) (fun _ => br_f (by decide) (by rw [eb, ec]; exact q))))
theorem ek_26 {W : Nat} {u : SX} {v : SY} {n S g j i : Nat} (E : ex_at W u v n S g j i) (k : xa_kinds u i = 26) : ex_x W u v g i := by
  obtain ⟨hg, j4, hr, d1, d2, i60, T, TY⟩ := at_f E
  obtain ⟨B1, B2, ea, eb, ec⟩ := at_e E
  obtain ⟨_, _, _, hp, hx, hy, hi⟩ := id E
  obtain ⟨w, hw, Hw, s, hm, pw, wk, wA, wB, wC, wv⟩ := at_g E
  have kY : ya_kind v i = 26 := by rw [B1]; exact k
  have kw : xa_kinds w i = 26 := by rw [wk]; exact k
  have nx := st_nx T.2.1 hi (by rw [k]; decide)
  have ht := (mid_t Hw).1
  obtain ⟨p, p6, ep, epY⟩ := at_p E (by rw [k]; decide)
  have epw : xa_argA w i = nI p := by rw [wA]; exact ep
  by_cases c0 : rl_val (xa_variables u) (4 * g + j) (xa_argC u i) ≤ rl_val (xa_variables u) (4 * g + j) (xa_argB u i)
  · exact ex_var (x := 0) Hw s hm hp pw nx p6 (fun P q => xx_26 hg j4 hr d1 hx i60 k (by rw [hw]; exact xq_26 ht i60 epw p6 kw (fun _ => q) (fun z => absurd c0 z))) (fun P q => yy_26 hg j4 d2 i60 kY (by rw [eb, ec]; exact yq_26 hg j4 d2 i60 kY epY p6 (fun _ => br_f (by decide) q) (fun z => absurd c0 z)))
  · exact ex_var (x := 1) Hw s hm hp pw nx p6 (fun P q => xx_26 hg j4 hr d1 hx i60 k (by rw [hw]; exact xq_26 ht i60 epw p6 kw (fun z => absurd z c0) (fun _ => q))) (fun P q => yy_26 hg j4 d2 i60 kY (by rw [eb, ec]; exact yq_26 hg j4 d2 i60 kY epY p6 (fun z => absurd z c0) (fun _ => br_f (by decide) q)))
theorem ek_27 {W : Nat} {u : SX} {v : SY} {n S g j i : Nat} (E : ex_at W u v n S g j i) (k : xa_kinds u i = 27) : ex_x W u v g i := by
  obtain ⟨hg, j4, hr, d1, d2, i60, T, TY⟩ := at_f E
  obtain ⟨B1, B2, ea, eb, ec⟩ := at_e E
  obtain ⟨_, _, _, hp, hx, hy, hi⟩ := id E
  obtain ⟨w, hw, Hw, s, hm, pw, wk, wA, wB, wC, wv⟩ := at_g E
  have kY : ya_kind v i = 27 := by rw [B1]; exact k
  have kw : xa_kinds w i = 27 := by rw [wk]; exact k
  have nx := st_nx T.2.1 hi (by rw [k]; decide)
  have ht := (mid_t Hw).1
  obtain ⟨p, p6, ep, epY⟩ := at_p E (by rw [k]; decide)
  have epw : xa_argA w i = nI p := by rw [wA]; exact ep
  by_cases c0 : rl_val (xa_variables u) (4 * g + j) (xa_argB u i) = rl_val (xa_variables u) (4 * g + j) (xa_argC u i)
  · exact ex_var (x := 1) Hw s hm hp pw nx p6 (fun P q => xx_27 hg j4 hr d1 hx i60 k (by rw [hw]; exact xq_27 ht i60 epw p6 kw (fun _ => q) (fun z => absurd c0 z))) (fun P q => yy_27 hg j4 d2 i60 kY (by rw [eb, ec]; exact yq_27 hg j4 d2 i60 kY epY p6 (fun _ => br_f (by decide) q) (fun z => absurd c0 z)))
  · exact ex_var (x := 0) Hw s hm hp pw nx p6 (fun P q => xx_27 hg j4 hr d1 hx i60 k (by rw [hw]; exact xq_27 ht i60 epw p6 kw (fun z => absurd z c0) (fun _ => q))) (fun P q => yy_27 hg j4 d2 i60 kY (by rw [eb, ec]; exact yq_27 hg j4 d2 i60 kY epY p6 (fun z => absurd z c0) (fun _ => br_f (by decide) q)))
theorem ek_c {W : Nat} {u : SX} {v : SY} {n S g j i : Nat} (E : ex_at W u v n S g j i) (k : xa_kinds u i = 21 ∨ xa_kinds u i = 22 ∨ xa_kinds u i = 23 ∨ xa_kinds u i = 24 ∨ xa_kinds u i = 25 ∨ xa_kinds u i = 26 ∨ xa_kinds u i = 27) : ex_x W u v g i := by
  rcases k with k | k | k | k | k | k | k
  · exact ek_21 E k
  · exact ek_22 E k
  · exact ek_23 E k
  · exact ek_24 E k
  · exact ek_25 E k
  · exact ek_26 E k
  · exact ek_27 E k
theorem ek_17 {W : Nat} {u : SX} {v : SY} {n S g j i : Nat} (E : ex_at W u v n S g j i) (k : xa_kinds u i = 17) : ex_x W u v g i := by
  obtain ⟨hg, j4, hr, d1, d2, i60, T, TY⟩ := at_f E
  obtain ⟨B1, B2, ea, eb, ec⟩ := at_e E
  obtain ⟨H, s, hm, hp, hx, hy, hi⟩ := id E
  obtain ⟨Hw, pw⟩ := at_w (q := i + 1) E
  exact ex_le (mid_mode (p := 1) Hw) s (Or.inl ⟨(pk_us : upd (xa_mode u) (4 * g + j) 1 (4 * g + j) = 1), hp⟩) (fun P q => xx_17 hg j4 hr d1 hx i60 k q) (fun P q => yy_17 hg j4 d2 i60 (by rw [B1]; exact k) q)
theorem ek_18 {W : Nat} {u : SX} {v : SY} {n S g j i : Nat} (E : ex_at W u v n S g j i) (k : xa_kinds u i = 18) : ex_x W u v g i := by
  obtain ⟨hg, j4, hr, d1, d2, i60, T, TY⟩ := at_f E
  obtain ⟨B1, B2, ea, eb, ec⟩ := at_e E
  obtain ⟨H, s, hm, hp, hx, hy, hi⟩ := id E
  obtain ⟨Hw, pw⟩ := at_w (q := i + 1) E
  exact ex_pa (x := rl_val (xa_variables u) (4 * g + j) (xa_argA u i)) Hw s (fun P q => xx_18 hg j4 hr d1 hx i60 k q) (fun P q => yy_18 hg j4 d2 i60 (by rw [B1]; exact k) (by rw [ea]; exact q))
theorem ek_20 {W : Nat} {u : SX} {v : SY} {n S g j i : Nat} (E : ex_at W u v n S g j i) (k : xa_kinds u i = 20) : ex_x W u v g i := by
  obtain ⟨hg, j4, hr, d1, d2, i60, T, TY⟩ := at_f E
  obtain ⟨B1, B2, ea, eb, ec⟩ := at_e E
  obtain ⟨H, s, hm, hp, hx, hy, hi⟩ := id E
  obtain ⟨Hw, pw⟩ := at_w (q := i + 1) E
  have kY : ya_kind v i = 20 := by rw [B1]; exact k
  have B8 : ya_printed v = xa_outputCount u := H.1.1.2.2.2.2.2.2.2.2.1
  have B9 : ya_out v = xa_outputs u := H.1.1.2.2.2.2.2.2.2.2.2.1
  have nx := st_nx T.2.1 hi (by rw [k]; decide)
  refine ex_go (mid_out (c := xa_outputCount u + 1) (o := upd (xa_outputs u) (xa_outputCount u &&& 31).toNatClampNeg (rl_val (xa_variables u) (4 * g + j) (xa_argA u i))) Hw) s hm hp pw nx nx rfl (fun P q => xx_20 hg j4 hr d1 hx i60 k ?_) (fun P q => yy_20 hg j4 d2 i60 kY (yq_20 hg j4 d2 i60 kY (br_f (by decide) (by rw [ea, B8, B9]; exact q))))
  rw [ux_print]
  exact ⟨pk_andIn (m := 31) _ 5 rfl (by decide), nm_e (nm_e q)⟩
theorem ek_16 {W : Nat} {u : SX} {v : SY} {n S g j i : Nat} (E : ex_at W u v n S g j i) (k : xa_kinds u i = 16) : ex_x W u v g i := by
  obtain ⟨hg, j4, hr, d1, d2, i60, T, TY⟩ := at_f E
  obtain ⟨B1, B2, ea, eb, ec⟩ := at_e E
  obtain ⟨_, _, _, hp, hx, hy, hi⟩ := id E
  obtain ⟨w, hw, Hw, s, hm, pw, wk, wA, wB, wC, wv⟩ := at_g E
  have kY : ya_kind v i = 16 := by rw [B1]; exact k
  have kw : xa_kinds w i = 16 := by rw [wk]; exact k
  have nx := st_nx T.2.1 hi (by rw [k]; decide)
  have ht := (mid_t Hw).1
  have Tw := Hw.1.2.1
  have go : ln_go (xa_kinds w i) := by rw [kw]; decide
  obtain ⟨f, f30, ef⟩ := (Tw.2.2.2.2.2.1 i hi).2.2.2.2.2 go
  have ff := Tw.2.2.2.2.2.2 i hi go
  rw [ef] at ff
  have efu : xa_argA u i = nI f := by rw [← wA]; exact ef
  have efY : ya_opA v i = nI f := by rw [B2]; exact efu
  obtain ⟨c, c3, e3, _⟩ := Hw.2.2.2.2.2.2.2.2.2.2.1 j (by omega)
  have B19 : ya_noted v = xa_noteCount w := Hw.1.1.2.2.2.2.2.2.2.2.2.2.2.2.2.2.2.2.2.2.2.1
  have e3Y : ya_noted v (4 * g + j) = nI c := by rw [B19]; exact e3
  have ct : (nI (4 * g + j)).toNatClampNeg = 4 * g + j := nI_clamp (by omega)
  have vt : vp_in (nI (4 * g + j)) 48 := vp_in_nI (by omega) (by decide)
  by_cases c0 : c = 3
  · subst c0
    refine ex_pa (x := -5) Hw s (fun P q => xx_16 hg j4 hr d1 hx i60 k ?_) (fun P q => yy_16 hg j4 d2 i60 kY (yq_16 hg j4 d2 i60 kY e3Y (Nat.le_refl _) efY f30 (fun _ => pl_0 q) (fun z => by omega)))
    rw [hw, ux_note, ct, e3]
    exact ⟨vt, br_f (by decide) q⟩
  · have s : xb_state w = 1 := s
    have hm : xb_mode w (4 * g + j) = 0 := hm
    have hp : yb_panics v (4 * g + j) = 0 := hp
    have pw : xb_position w (4 * g + j) = nI (i + 1) := pw
    refine ex_go (mid_note (x := rl_val (xa_variables u) (4 * g + j) (xa_argB u i)) (y := rl_val (xa_variables u) (4 * g + j) (xa_argC u i)) Hw e3 (by omega) f30 ff) s hm hp pw nx nx rfl (fun P q => xx_16 hg j4 hr d1 hx i60 k ?_) (fun P q => yy_16 hg j4 d2 i60 kY (yq_16 hg j4 d2 i60 kY e3Y c3 efY f30 (fun z => absurd z c0) (fun _ => br_f (by decide) (by rw [eb, ec]; exact q))))
    rw [hw, ux_note, ct, e3, efu, ix3, nI_1]
    have vq : vp_in (nI (3 * (4 * g + j) + c)) 144 := vp_in_nI (by omega) (by decide)
    refine ⟨vt, br_t (nI_lt (b := 3) (by omega) (by decide)) ⟨vt, nm_e ?_⟩⟩
    rw [ix2, nI_1, nI_clamp (show 3 * (4 * g + j) + c < 2 ^ 31 by omega), nI_clamp (show 2 * (3 * (4 * g + j) + c) < 2 ^ 31 by omega), nI_clamp (show 2 * (3 * (4 * g + j) + c) + 1 < 2 ^ 31 by omega)]
    exact ⟨vq, nm_e ⟨vp_in_nI (by omega) (by decide), nm_e ⟨vp_in_nI (by omega) (by decide), nm_e ⟨vt, vt, nm_e q⟩⟩⟩⟩
theorem yc_pv {v : SY} {a b : Nat → Int32} : ys_panics (ys_vars v a) b = ys_vars (ys_panics v b) a := Eq.trans (b := (yb_lines v, yb_bad v, yb_state v, yb_queued v, yb_started v, yb_now v, yb_clock v, yb_turn v, yb_off v, yb_made v, yb_printed v, yb_panicValue v, yb_kind v, yb_opA v, yb_opB v, yb_opC v, yb_open v, yb_seen v, yb_unset v, yb_status v, yb_depth v, yb_since v, yb_resume v, yb_shocked v, yb_queue v, yb_until v, yb_channels v, yb_pc v, a, yb_noted v, yb_noteOf v, yb_noteB v, yb_noteC v, yb_asNote v, b, yb_panicWith v, yb_capacity v, yb_held v, yb_closed v, yb_values v, yb_out v)) rfl rfl
/-- the panic below is recovered -/
theorem mid_rec {W : Nat} {u : SX} {v : SY} {n S g j : Nat} (H : rl_mid W u v n S g (j + 2)) (ha : ya_asNote v (4 * g + j + 1) = 1) : rl_mid W (xs_mode u (upd (xa_mode u) (4 * g + j) 1)) (ys_panics v (upd (ya_panics v) (4 * g + j) 0)) n S g (j + 2) := by
  obtain ⟨m1, m2, m3, m4, m5, m6, m7, m8, m9, m10, m11⟩ := me_b H.2.2.2.2.2
  obtain ⟨L0, B1, B2, B3, B4, B5, B6, B7, B8, B9, B10, B11, B12, B13, B14, B15, B16, B17, B18, B19, B20, B21, B22⟩ := bs_b H.1.1
  refine mid_loc H ⟨⟨rfl, rfl, rfl, rfl, rfl, rfl, rfl, rfl, rfl, rfl⟩, rfl, rfl, rfl, rfl, rfl, rfl, fun g1 h1 => ⟨rfl, rfl, rfl, fr_er, fr_er, fr_er, (fr_e4 h1 (by omega) : fr_e 4 g1 (xa_mode u) (upd (xa_mode u) (4 * g + j) 1)), fr_er, fr_er, fr_er, fr_er⟩⟩ ⟨rfl, rfl, rfl, fun g1 h1 => ⟨rfl, rfl, rfl, rfl, rfl, rfl, fr_er, fr_er, (fr_e4 h1 (by omega) : fr_e 4 g1 (ya_panics v) (upd (ya_panics v) (4 * g + j) 0)), fr_er, fr_er⟩⟩ ⟨L0, B1, B2, B3, B4, B5, B6, B7, B8, B9, B10, B11, B12, B13, B14, B15, B16, B17, B18, B19, B20, B21, B22⟩ (chn_fr H.1.2.2.2.2.2.2.1 rfl rfl rfl rfl rfl rfl) ⟨m1, m2, m3, m4, ⟨(m5.1 : yb_asNote v (4 * g) = 0), fun q hq => ?_⟩, (rl_nts_fr rfl m2 fr_er fr_er fr_er fr_er fr_er m6), m7, m8, m9, m10, (rl_nw_fr rfl fr_er m11)⟩
  by_cases e : q = j
  · subst e
    exact Or.inr ⟨(ha : yb_asNote v (4 * g + q + 1) = 1), Or.inl ⟨(pk_us : upd (xa_mode u) (4 * g + q) 1 (4 * g + q) = 1), (pk_us : upd (ya_panics v) (4 * g + q) 0 (4 * g + q) = 0)⟩⟩
  · have e1 : xa_mode (xs_mode u (upd (xa_mode u) (4 * g + j) 1)) (4 * g + q) = xa_mode u (4 * g + q) := (pk_un (by omega) : upd (xa_mode u) (4 * g + j) 1 (4 * g + q) = _)
    have e2 : ya_panics (ys_panics v (upd (ya_panics v) (4 * g + j) 0)) (4 * g + q) = ya_panics v (4 * g + q) := (pk_un (by omega) : upd (ya_panics v) (4 * g + j) 0 (4 * g + q) = _)
    have e3 : ya_asNote (ys_panics v (upd (ya_panics v) (4 * g + j) 0)) = yb_asNote v := rfl
    have e4 : xa_kinds (xs_mode u (upd (xa_mode u) (4 * g + j) 1)) = xb_kinds u := rfl
    have e5 : ya_pc (ys_panics v (upd (ya_panics v) (4 * g + j) 0)) = yb_pc v := rfl
    have e6 : xa_position (xs_mode u (upd (xa_mode u) (4 * g + j) 1)) = xb_position u := rfl
    rw [e1, e2, e3, e4, e5, e6]
    exact m5.2 q hq
theorem ek_19 {W : Nat} {u : SX} {v : SY} {n S g j i : Nat} (E : ex_at W u v n S g j i) (k : xa_kinds u i = 19) : ex_x W u v g i := by
  obtain ⟨hg, j4, hr, d1, d2, i60, T, TY⟩ := at_f E
  obtain ⟨B1, B2, ea, eb, ec⟩ := at_e E
  obtain ⟨_, _, _, hp, hx, hy, hi⟩ := id E
  obtain ⟨w, hw, Hw, s, hm, pw, wk, wA, wB, wC, wv⟩ := at_g E
  have kY : ya_kind v i = 19 := by rw [B1]; exact k
  have kw : xa_kinds w i = 19 := by rw [wk]; exact k
  have nx := st_nx T.2.1 hi (by rw [k]; decide)
  have ht := (mid_t Hw).1
  obtain ⟨p, p6, ep, epY⟩ := at_p E (by rw [k]; decide)
  have epw : xa_argA w i = nI p := by rw [wA]; exact ep
  have B21 : ya_panicWith v = xa_panicOf w := Hw.1.1.2.2.2.2.2.2.2.2.2.2.2.2.2.2.2.2.2.2.2.2.2.1
  have cg : (nI g).toNatClampNeg = g := nI_clamp (by omega)
  have vg : vp_in (nI g) 12 := vp_in_nI hg (by decide)
  have low := Hw.2.2.2.2.2.2.2.2.2.1
  have hrw : xa_running w = nI g := Hw.2.2.1
  have hdw : xa_depth w g = nI (j + 1) := Hw.2.2.2.2.2.2.2.1
  have fin : ∀ (P : SX → Prop) (w : SX) (x : Int32), xa_argA w i = nI p → P (xs_variables w (upd (xa_variables w) (6 * (4 * g + j) + p) x)) → cx_recover_45 P (nI (4 * g + j)) (nI i) x w := by
    intro P w x hw q
    rw [ux_recover_45]
    exact xc_set ht i60 hw p6 q
  cases j with
  | zero =>
    have a0 : ya_asNote v (4 * g + 0) = 0 := low.1
    refine ex_var (x := 0) Hw s hm hp pw nx p6 (fun P q => xx_19 hg j4 hr d1 hx i60 k ?_) (fun P q => yy_19 hg j4 d2 i60 kY (yq_19 hg j4 d2 i60 kY epY p6 (fun _ => br_f (by decide) q) (fun z => absurd a0 z) (fun z => absurd a0 z)))
    rw [hw, ux_recover, hrw, cg, hdw]
    exact ⟨vg, br_t (by decide) (fin P w 0 epw q)⟩
  | succ j =>
    have e1 : nI (4 * g + (j + 1)) - 1 = nI (4 * g + j) := nI_p (4 * g + j)
    have cs : (nI (4 * g + j)).toNatClampNeg = 4 * g + j := nI_clamp (by omega)
    have vs : vp_in (nI (4 * g + j)) 48 := vp_in_nI (by omega) (by decide)
    have d2' : ¬ nI (j + 1 + 1) ≤ 1 := fun z => by have := (nI_leI (b := 1) (by omega) (by decide)).mp z; omega
    have xm : ∀ P : SX → Prop, (¬ xa_mode w (4 * g + j) = 2 → P (xs_variables w (upd (xa_variables w) (6 * (4 * g + (j + 1)) + p) 0))) → (xa_mode w (4 * g + j) = 2 → P (xs_variables (xs_mode w (upd (xa_mode w) (4 * g + j) 1)) (upd (xa_variables (xs_mode w (upd (xa_mode w) (4 * g + j) 1))) (6 * (4 * g + (j + 1)) + p) (xa_panicOf w (4 * g + j))))) → wpX_execute P u := by
      intro P h1 h2
      refine xx_19 hg j4 hr d1 hx i60 k ?_
      rw [hw, ux_recover, hrw, cg, hdw, e1, cs]
      exact ⟨vg, br_f d2' ⟨vs, br_c (fun z => ⟨vs, nm_e ⟨vs, nm_e (fin P (xs_mode w (upd (xa_mode w) (4 * g + j) 1)) _ (epw : xb_argA w i = nI p) (h2 z))⟩⟩) (fun z => fin P w 0 epw (h1 z))⟩⟩
    have pj : 4 * g + (j + 1) - 1 = 4 * g + j := rfl
    rcases low.2 j (by omega) with ⟨l1, l2, l3, _⟩ | ⟨l1, l2⟩
    · have l2' : ¬ xa_mode w (4 * g + j) = 2 := by rw [l2]; decide
      have l1 : ya_asNote v (4 * g + (j + 1)) = 0 := l1
      exact ex_var (x := 0) Hw s hm hp pw nx p6 (fun P q => xm P (fun _ => q) (fun z => absurd z l2')) (fun P q => yy_19 hg j4 d2 i60 kY (yq_19 hg j4 d2 i60 kY epY p6 (fun _ => br_f (by decide) q) (fun z => absurd l1 z) (fun z => absurd l1 z)))
    · rcases l2 with ⟨l2, l3⟩ | ⟨l2, l3⟩
      · have l2' : ¬ xa_mode w (4 * g + j) = 2 := by rw [l2]; decide
        exact ex_var (x := 0) Hw s hm hp pw nx p6 (fun P q => xm P (fun _ => q) (fun z => absurd z l2')) (fun P q => yy_19 hg j4 d2 i60 kY (yq_19 hg j4 d2 i60 kY epY p6 (fun _ => br_f (by decide) q) (fun _ => by omega) (fun _ z => absurd l3 z)))
      · have l3' : ¬ ya_panics v (4 * g + j) = 0 := by rw [l3]; decide
        have l1' : ¬ ya_asNote v (4 * g + (j + 1)) = 0 := by rw [show ya_asNote v (4 * g + (j + 1)) = 1 from l1]; decide
        have HR := mid_rec Hw l1
        refine ex_var (x := xa_panicOf w (4 * g + j)) HR (s : xb_state w = 1) ?_ ?_ (pw : xb_position w (4 * g + (j + 1)) = nI (i + 1)) nx p6 (fun P q => xm P (fun z => absurd l2 z) (fun _ => q)) (fun P q => yy_19 hg j4 d2 i60 kY (yq_19 hg j4 d2 i60 kY epY p6 (fun z => ?_) (fun _ => by omega) (fun _ _ => br_f (by decide) ?_)))
        · exact (pk_un (by omega) : upd (xa_mode w) (4 * g + j) 1 (4 * g + (j + 1)) = _).trans hm
        · exact (pk_un (by omega) : upd (ya_panics v) (4 * g + j) 0 (4 * g + (j + 1)) = _).trans hp
        · rcases z with z | ⟨_, z⟩
          · exact absurd z l1'
          · exact absurd z l3'
        · rw [yc_pv, B21]; exact q
