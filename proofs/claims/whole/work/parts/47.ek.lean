/-! the lines that need no other goroutine -/
def ex_at (W : Nat) (u : SX) (v : SY) (n S g j i : Nat) : Prop := rl_mid W u v n S g (j + 1) ∧ xa_state u = 1 ∧ xa_mode u (4 * g + j) = 0 ∧ ya_panics v (4 * g + j) = 0 ∧ xa_position u (4 * g + j) = nI i ∧ ya_pc v (4 * g + j) = nI i ∧ i < n
def ex_x (W : Nat) (u : SX) (v : SY) (g i : Nat) : Prop := ex_r W (fun P => wpX_execute P u) (fun P => wpY_execute P v (nI g) (nI i))
theorem at_f {W : Nat} {u : SX} {v : SY} {n S g j i : Nat} (E : ex_at W u v n S g j i) : g < 12 ∧ j < 4 ∧ xa_running u = nI g ∧ xa_depth u g = nI (j + 1) ∧ ya_depth v g = nI (j + 1) ∧ i < 60 ∧ sx_st u n ∧ sy_st v n := by
  obtain ⟨H, s, hm, hp, hx, hy, hi⟩ := E
  have T := H.1.2.1
  exact ⟨(mid_t H).2, by have := H.2.2.2.2.2.2.1; omega, H.2.2.1, H.2.2.2.2.2.2.2.1, H.2.2.2.2.2.2.2.2.1, by have := T.2.1.1; omega, T, sy_bs H.1.1 T⟩
theorem at_w {W : Nat} {u : SX} {v : SY} {n S g j i q : Nat} (E : ex_at W u v n S g j i) : rl_mid W (xp_at u (4 * g + j) q) v n S g (j + 1) ∧ xa_position (xp_at u (4 * g + j) q) (4 * g + j) = nI q := ⟨mid_pos E.1, (pk_us : upd (xa_position u) (4 * g + j) (nI q) (4 * g + j) = nI q)⟩
theorem ek_0 {W : Nat} {u : SX} {v : SY} {n S g j i : Nat} (E : ex_at W u v n S g j i) (k : xa_kinds u i = 0) : ex_x W u v g i := by
  obtain ⟨hg, j4, hr, d1, d2, i60, T, TY⟩ := at_f E
  obtain ⟨H, s, hm, hp, hx, hy, hi⟩ := id E
  obtain ⟨Hw, pw⟩ := at_w (q := i + 1) E
  have B1 := H.1.1.2.1
  have nx := st_nx T.2.1 hi (by rw [k]; decide)
  exact ex_go Hw s hm hp pw nx nx rfl (fun P q => xx_0 hg j4 hr d1 hx i60 k q) (fun P q => yy_0 hg j4 d2 i60 (by rw [B1]; exact k) (yq_0 hg j4 d2 i60 (by rw [B1]; exact k) (br_f (by decide) q)))
theorem ek_2 {W : Nat} {u : SX} {v : SY} {n S g j i : Nat} (E : ex_at W u v n S g j i) (k : xa_kinds u i = 2) : ex_x W u v g i := by
  obtain ⟨hg, j4, hr, d1, d2, i60, T, TY⟩ := at_f E
  obtain ⟨H, s, hm, hp, hx, hy, hi⟩ := id E
  have B1 := H.1.1.2.1
  have B2 := H.1.1.2.2.1
  have B18 : ya_vars v = xa_variables u := H.1.1.2.2.2.2.2.2.2.2.2.2.2.2.2.2.2.2.2.2.1
  have nx := st_nx T.2.1 hi (by rw [k]; decide)
  have op : st_op (xa_kinds u i) := by rw [k]; decide
  have opY : st_op (ya_kind v i) := by rw [B1]; exact op
  have kY : ya_kind v i = 2 := by rw [B1]; exact k
  obtain ⟨e1, e2, e3⟩ := sx_end T hi op
  have F := T.2.1.2.2.1
  have n60 := T.2.1.1
  have Z := T.2.1.2.1
  obtain ⟨p1, p2, p3, p4, p5⟩ := un_opn T.2.1 hi op
  have p6 := (p5 (by rw [k]; decide)).1
  have ea : rl_val (ya_vars v) (4 * g + j) (ya_opA v i) = rl_val (xa_variables u) (4 * g + j) (xa_argA u i) := by rw [B18, B2]
  have only : ∀ l, st_P (xa_kinds u) i l → xa_kinds u l = 3 ∨ ¬ l < n := by
    intro l hl
    rcases Nat.lt_or_ge l n with ln | ln
    · rcases hl.2 with z | z
      · exact Or.inl z
      · obtain ⟨o', r', e', k'⟩ := T.2.1.2.2.2.2.1 l ln z
        have := hl.1
        rw [e'] at this
        have ii : o' = i := by simpa using this
        rw [ii, k] at k'; exact absurd k' (by decide)
    · exact Or.inr (by omega)
  have els := T.2.2.2.2.1.2.2.1 i hi
  by_cases a0 : rl_val (xa_variables u) (4 * g + j) (xa_argA u i) = 0
  · rcases els with ⟨l1, l2⟩ | ⟨l, l1, l2, l3, l4⟩
    · obtain ⟨Hw, pw⟩ := at_w (q := st_e (xa_kinds u) i n) E
      refine ex_go (p' := st_e (xa_kinds u) i n + 1) Hw s hm hp pw p2 p6 ?_ (fun P q => xx_2 hg j4 hr d1 hx i60 k e1 (fun z => absurd a0 z) (fun _ _ => q) (fun _ z => absurd l1 z)) (fun P q => yy_2 hg j4 d2 i60 kY (sy_part TY hi opY (Or.inl rfl) (fun j' a1 a2 a3 a4 => ?_) (fun no => ?_)))
      · have mk : st_mk (xa_kinds u (st_e (xa_kinds u) i n)) := Or.inl p3
        have := st_ch_s F Z p2 mk p4 (by rw [k]; decide) (by rw [k]; decide)
        exact this.symm
      · rw [B1] at a2 a3
        rcases only j' a3 with z | z
        · exact absurd ⟨j', by omega, z, a3.1⟩ l2
        · omega
      · refine br_t (by rw [ea]; exact a0) (br_f (by decide) (ye_endOf (v := v) (e := st_e (xa_kinds u) i n) (o := i) TY.1 TY.2.1.1 TY.2.1.2.2.1 p2 (by rw [B1]; exact p3) (by rw [B1]; exact p4) ?_))
        rw [nI_1]; exact q
    · have ln := st_nx T.2.1 l1 (by rw [l2]; decide)
      obtain ⟨Hw, pw⟩ := at_w (q := l + 1) E
      have hx3 : ∀ P : SX → Prop, P (xp_at u (4 * g + j) (l + 1)) → P (xs_position u (upd (xa_position u) (4 * g + j) (xa_elseOf u i + 1))) := fun P q => by rw [l4, nI_1]; exact q
      refine ex_go Hw s hm hp pw ln ln rfl (fun P q => xx_2 hg j4 hr d1 hx i60 k e1 (fun z => absurd a0 z) (fun _ z => absurd (l4.symm.trans z) (ne_m1 (by omega))) (fun _ _ => hx3 P q)) (fun P q => yy_2 hg j4 d2 i60 kY (sy_part TY hi opY (Or.inl rfl) (fun j' a1 a2 a3 a4 => ?_) (fun no => ?_)))
      · rw [B1] at a2 a3 a4
        have j'n : j' < n := by omega
        have pl : st_P (xa_kinds u) i l := ⟨l3, Or.inl l2⟩
        have il := (un_hdo l3)
        have jl : j' = l := by
          obtain ⟨_, _, il, _, _⟩ := un_hdo l3
          rcases Nat.lt_trichotomy j' l with c | c | c
          · have kj : xa_kinds u j' = 3 := (only j' a3).elim id (fun z => absurd j'n z)
            obtain ⟨r, er, _⟩ := un_hdo l3
            obtain ⟨_, h | ⟨h, _⟩ | ⟨_, _, _, h, _⟩⟩ := (fm_cons er).mp (T.2.2.2.1 l l1)
            · rw [l2] at h; exact absurd h (by decide)
            · rw [l2] at h; exact absurd h (by decide)
            · exact absurd ⟨j', c, kj, a3.1⟩ (h l2).2
          · exact c
          · exact absurd pl (a4 l il c)
        subst jl
        refine br_t (by rw [ea]; exact a0) (br_t (nI_pos' (by omega)) ?_)
        rw [nI_1]; exact q
      · have := al_in T.2.1 l1 l3 (by rw [l2]; decide)
        rw [B1] at no
        exact absurd ⟨l3, Or.inl l2⟩ (no l this.1 this.2)
  · obtain ⟨Hw, pw⟩ := at_w (q := i + 1) E
    have a0' : ¬ rl_val (ya_vars v) (4 * g + j) (ya_opA v i) = 0 := by rw [ea]; exact a0
    exact ex_go Hw s hm hp pw nx nx rfl (fun P q => xx_2 hg j4 hr d1 hx i60 k e1 (fun _ => q) (fun z => absurd z a0) (fun z => absurd z a0)) (fun P q => yy_2 hg j4 d2 i60 kY (sy_part TY hi opY (Or.inl rfl) (fun j' _ _ _ _ => br_f a0' q) (fun _ => br_f a0' q)))
theorem ek_4 {W : Nat} {u : SX} {v : SY} {n S g j i : Nat} (E : ex_at W u v n S g j i) (k : xa_kinds u i = 4) : ex_x W u v g i := by
  obtain ⟨hg, j4, hr, d1, d2, i60, T, TY⟩ := at_f E
  obtain ⟨H, s, hm, hp, hx, hy, hi⟩ := id E
  have B1 := H.1.1.2.1
  have B2 := H.1.1.2.2.1
  have B18 : ya_vars v = xa_variables u := H.1.1.2.2.2.2.2.2.2.2.2.2.2.2.2.2.2.2.2.2.1
  have nx := st_nx T.2.1 hi (by rw [k]; decide)
  have op : st_op (xa_kinds u i) := by rw [k]; decide
  have kY : ya_kind v i = 4 := by rw [B1]; exact k
  obtain ⟨e1, e2, e3⟩ := sx_end T hi op
  obtain ⟨p1, p2, p3, p4, p5⟩ := un_opn T.2.1 hi op
  have p6 := (p5 (by rw [k]; decide)).1
  have ea : rl_val (ya_vars v) (4 * g + j) (ya_opA v i) = rl_val (xa_variables u) (4 * g + j) (xa_argA u i) := by rw [B18, B2]
  by_cases a0 : rl_val (xa_variables u) (4 * g + j) (xa_argA u i) = 0
  · obtain ⟨Hw, pw⟩ := at_w (q := st_e (xa_kinds u) i n + 1) E
    refine ex_go Hw s hm hp pw p6 p6 rfl (fun P q => xx_4 hg j4 hr d1 hx i60 k e1 (fun z => absurd a0 z) (fun _ => q)) (fun P q => yy_4 hg j4 d2 i60 kY (br_t (by rw [ea]; exact a0) (ye_endOf (v := v) (e := st_e (xa_kinds u) i n) (o := i) TY.1 TY.2.1.1 TY.2.1.2.2.1 p2 (by rw [B1]; exact p3) (by rw [B1]; exact p4) ?_)))
    rw [nI_1]; exact q
  · obtain ⟨Hw, pw⟩ := at_w (q := i + 1) E
    exact ex_go Hw s hm hp pw nx nx rfl (fun P q => xx_4 hg j4 hr d1 hx i60 k e1 (fun _ => q) (fun z => absurd z a0)) (fun P q => yy_4 hg j4 d2 i60 kY (br_f (by rw [ea]; exact a0) q))
theorem yx_249 {P : SY → Prop} {v : SY} {n i l : Nat} {g : Int32} (T : sy_st v n) (hi : i < n) (h : wpY_goOn P v g (nI (st_e (ya_kind v) l n + 1))) :
    ∀ (L : List Nat) (b : Nat) (r : List Nat), st_s (ya_kind v) i = L ++ b :: r → (b :: r).find? (fun b => ya_kind v b == 4) = some l → ∀ m, r.length < m → cy_execute_249 P g v m (nI b) := by
  have n60 := T.2.1.1
  intro L b r
  induction r generalizing L b with
  | nil =>
    intro e hf m hm
    obtain ⟨m, rfl⟩ : ∃ q, m = q + 1 := ⟨m - 1, by simp at hm; omega⟩
    have bm := st_lt (K := ya_kind v) (i := i) (b := b) (by rw [e]; simp)
    have k4 : ya_kind v b = 4 := by
      by_cases z : ya_kind v b = 4
      · exact z
      · rw [List.find?_cons, show (ya_kind v b == 4) = false from by simp [z]] at hf
        cases hf
    have eb : l = b := by
      rw [List.find?_cons, show (ya_kind v b == 4) = true from by simp [k4]] at hf
      injection hf with q; exact q.symm
    subst eb
    obtain ⟨p1, p2, p3, p4, p5⟩ := un_opn T.2.1 (show l < n by omega) (Or.inr (Or.inr (Or.inl k4)))
    rw [uy_execute_249, nI_clamp (by omega)]
    exact ⟨vp_in_nI (by omega) (by decide), br_t k4 (ye_endOf (v := v) T.1 n60 T.2.1.2.2.1 p2 p3 p4 (nm_r (nI_1 _) h))⟩
  | cons c r ih =>
    intro e hf m hm
    rw [List.length_cons] at hm
    obtain ⟨m, rfl⟩ : ∃ q, m = q + 1 := ⟨m - 1, by omega⟩
    have bm := st_lt (K := ya_kind v) (i := i) (b := b) (by rw [e]; simp)
    rw [uy_execute_249, nI_clamp (by omega)]
    refine ⟨vp_in_nI (by omega) (by decide), ?_⟩
    by_cases k4 : ya_kind v b = 4
    · have eb : l = b := by
        rw [List.find?_cons, show (ya_kind v b == 4) = true from by simp [k4]] at hf
        injection hf with q; exact q.symm
      subst eb
      obtain ⟨p1, p2, p3, p4, p5⟩ := un_opn T.2.1 (show l < n by omega) (Or.inr (Or.inr (Or.inl k4)))
      exact br_t k4 (ye_endOf (v := v) T.1 n60 T.2.1.2.2.1 p2 p3 p4 (nm_r (nI_1 _) h))
    · rw [List.find?_cons, show (ya_kind v b == 4) = false from by simp [k4]] at hf
      have sb := st_sfx e
      exact br_f k4 (ye_opener (v := v) n60 T.2.1.2.2.1 (by omega) sb (ih (L ++ [b]) c (by rw [e]; simp) hf m (by omega)))
theorem ek_5 {W : Nat} {u : SX} {v : SY} {n S g j i : Nat} (E : ex_at W u v n S g j i) (k : xa_kinds u i = 5) : ex_x W u v g i := by
  obtain ⟨hg, j4, hr, d1, d2, i60, T, TY⟩ := at_f E
  obtain ⟨H, s, hm, hp, hx, hy, hi⟩ := id E
  have B1 := H.1.1.2.1
  have kY : ya_kind v i = 5 := by rw [B1]; exact k
  obtain ⟨b0, b1, b2⟩ := T.2.1.2.2.2.2.2 i hi k
  have n60 := T.2.1.1
  have hex : ∃ l, (st_s (xa_kinds u) i).find? (fun b => xa_kinds u b == 4) = some l := by
    cases hf : (st_s (xa_kinds u) i).find? (fun b => xa_kinds u b == 4) with
    | none =>
      have := List.find?_eq_none.mp hf b0 b1
      rw [b2] at this; exact absurd rfl this
    | some l => exact ⟨l, rfl⟩
  obtain ⟨l, hl⟩ := hex
  have lm := List.mem_of_find?_eq_some hl
  have lk : xa_kinds u l = 4 := by have := List.find?_some hl; simpa using this
  have ll := st_lt lm
  have op : st_op (xa_kinds u l) := by rw [lk]; decide
  obtain ⟨e1, e2, e3⟩ := sx_end T (by omega) op
  have p6 := ((un_opn T.2.1 (show l < n by omega) op).2.2.2.2 (by rw [lk]; decide)).1
  obtain ⟨Hw, pw⟩ := at_w (q := st_e (xa_kinds u) l n + 1) E
  refine ex_go Hw s hm hp pw p6 p6 rfl (fun P q => xx_5 hg j4 hr d1 hx i60 k ?_) (fun P q => yy_5 hg j4 d2 i60 kY ?_)
  · rw [T.2.2.2.2.1.1 i hi]
    refine xl_loopAround (u := xs_position u (upd (xa_position u) (4 * g + j) (nI (i + 1)))) (n := n) (i := i) n60 T.2.2.2.2.1.1 (by omega) (fun b hb => ?_) (fun hb => ?_)
    · have hb : (st_s (xa_kinds u) i).find? (fun b => xa_kinds u b == 4) = some b := hb
      rw [hl] at hb
      injection hb with z
      subst z
      rw [nI_clamp (show l < 2 ^ 31 by omega), e1, nI_1]
      exact ⟨vp_in_nI (by omega) (by decide), q⟩
    · have hb : (st_s (xa_kinds u) i).find? (fun b => xa_kinds u b == 4) = none := hb
      rw [hl] at hb; cases hb
  · rw [← B1] at hl q
    cases e : st_s (ya_kind v) i with
    | nil => rw [B1] at e; rw [e] at lm; cases lm
    | cons b r => exact ye_opener n60 TY.2.1.2.2.1 hi e ⟨r.length + 1, yx_249 TY hi q [] b r e (by rw [← e]; exact hl) _ (Nat.lt_succ_self _)⟩
