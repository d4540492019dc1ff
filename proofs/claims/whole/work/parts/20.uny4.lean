/-! UNSET: Y's answer -/
theorem un_yneg {w : Nat} (hw : w < 128) (h : w = 0 ∨ 64 ≤ w) : un_yv w < 0 ↔ w = 0 := by
  rcases h with z | z
  · rw [z]; decide
  · unfold un_yv
    rw [if_neg (by omega)]
    exact ⟨fun q => absurd q (nI_pos (by omega)), fun q => by omega⟩
theorem un_yrd : ∀ m, m < 64 → ∀ r, r < 64 → ((nI m &&& nI r) = 0 ↔ r &&& (64 + m) = 0) := by decide +kernel
theorem sy_Pm {v : SY} {n : Nat} (T : sy_st v n) : un_Pm (ya_kind v) (ya_opA v) n := fun i hi k0 => (T.2.2.2.2.1 i hi).2.1 k0
theorem un_Y0 {K A C : Nat → Int32} {n i w j o b : Nat} (W : st_wf K n) (hi : i < n) (hw : w = 0) (h : un_Y K A C n i w j o) (hb : o.testBit b = true) : False := un_0f hw ((un_Y_rng W hi h).2.2.2.2 b hb)
theorem yl_109 {post : Int32 → SY → Prop} {v : SY} {U : Nat → Int32} {n : Nat} (T : sy_st v n) (hU : un_SY U (un_ty (ya_kind v) (ya_opA v) (ya_opC v) n n) n) (hp : ∀ r, un_res (ya_kind v) (ya_opA v) (ya_opB v) (ya_opC v) n r → post r (ys_unset v U)) :
    ∀ d i, i + d = n → (∀ j, j < i → un_good (ya_kind v) (ya_opA v) (ya_opB v) (ya_opC v) n j) → ∀ m, d < m → cy_unsetLine_109 post (ys_unset v U) m (nI i) := by
  have n60 := T.2.1.1
  have hl : ya_lines (ys_unset v U) = nI n := T.1
  intro d
  induction d with
  | zero =>
    intro i hi hg m hm
    obtain ⟨m, rfl⟩ : ∃ q, m = q + 1 := ⟨m - 1, by omega⟩
    rw [uy_unsetLine_109, hl]
    exact br_t (nI_le (by omega) (by omega)) (hp _ (Or.inr ⟨fun j hj => hg j (by omega), rfl⟩))
  | succ d ih =>
    intro i hi hg m hm
    obtain ⟨m, rfl⟩ : ∃ q, m = q + 1 := ⟨m - 1, by omega⟩
    have vi : vp_in (nI i) 60 := vp_in_nI (by omega) (by decide)
    obtain ⟨e1, w1, w2⟩ := hU i (by omega)
    have e1' : ya_unset (ys_unset v U) i = un_yv (un_ty (ya_kind v) (ya_opA v) (ya_opC v) n n i) := e1
    have nx : un_good (ya_kind v) (ya_opA v) (ya_opB v) (ya_opC v) n i → cy_unsetLine_109 post (ys_unset v U) m (nI (i + 1)) := by
      intro g
      refine ih (i + 1) (by omega) (fun j hj => ?_) m (by omega)
      by_cases z : j = i
      · subst z; exact g
      · exact hg j (by omega)
    rw [uy_unsetLine_109, hl, nI_clamp (by omega), e1', un_yneg w1 w2]
    refine br_f (nI_ge (by omega) (by omega)) ⟨vi, br_c (fun z => nm_r (nI_1 _) (nx ?_)) (fun z => ⟨vi, yr_reads (v := ys_unset v U) T (by omega) ?_⟩)⟩
    · unfold un_good; rw [z, Nat.and_zero]
    · show ((un_yv (un_ty (ya_kind v) (ya_opA v) (ya_opC v) n n i) &&& nI (un_r (ya_kind v) (ya_opA v) (ya_opB v) (ya_opC v) n i)) = 0 → _) ∧ (¬ (un_yv (un_ty (ya_kind v) (ya_opA v) (ya_opC v) n n i) &&& nI (un_r (ya_kind v) (ya_opA v) (ya_opB v) (ya_opC v) n i)) = 0 → _)
      have w3 := w2.resolve_left z
      have e : (un_yv (un_ty (ya_kind v) (ya_opA v) (ya_opC v) n n i) &&& nI (un_r (ya_kind v) (ya_opA v) (ya_opB v) (ya_opC v) n i)) = 0 ↔ un_good (ya_kind v) (ya_opA v) (ya_opB v) (ya_opC v) n i := by
        have := un_yrd (un_ty (ya_kind v) (ya_opA v) (ya_opC v) n n i - 64) (by omega) _ (un_r_lt (K := ya_kind v) (A := ya_opA v) (B := ya_opB v) (C := ya_opC v) (n := n) (i := i))
        rw [show 64 + (un_ty (ya_kind v) (ya_opA v) (ya_opC v) n n i - 64) = un_ty (ya_kind v) (ya_opA v) (ya_opC v) n n i by omega] at this
        unfold un_yv un_good
        rw [if_neg z]
        exact this
      rw [e]
      exact br_c (fun g => nm_r (nI_1 _) (nx g)) (fun g => hp _ (Or.inl ⟨i, by omega, hg, g, rfl⟩))
theorem un_SY_eq {U : Nat → Int32} {y y' : Nat → Nat} {n : Nat} (h : un_SY U y n) (e : ∀ t, t < n → y' t = y t) : un_SY U y' n := fun t ht => by rw [e t ht]; exact h t ht
theorem yl_70a {post : Int32 → SY → Prop} {J : Int32 → Int32 → SY → Prop} {v : SY} {n x2 : Nat} (T : sy_st v n) (hJ : ∀ U f, un_SY U (un_ty (ya_kind v) (ya_opA v) (ya_opC v) n n) n → un_fl f → J f (nI (x2 + 1)) (ys_unset v U)) :
    ∀ d i U f, i + d = n → un_SY U (un_ty (ya_kind v) (ya_opA v) (ya_opC v) n i) n → un_fl f → ∀ m, d < m → cy_unsetLine_70 post J (nI x2) m f (nI i) (ys_unset v U) := by
  have n60 := T.2.1.1
  have W := T.2.1
  have P := sy_Pm T
  have hl : ∀ U, ya_lines (ys_unset v U) = nI n := fun _ => T.1
  intro d
  induction d with
  | zero =>
    intro i U f hi hU hf m hm
    obtain ⟨m, rfl⟩ : ∃ q, m = q + 1 := ⟨m - 1, by omega⟩
    rw [uy_unsetLine_70, hl]
    have e : i = n := by omega
    rw [e] at hU ⊢
    exact br_t (nI_le (by omega) (by omega)) (nm_r (nI_1 _) (hJ U f hU hf))
  | succ d ih =>
    intro i U f hi hU hf m hm
    obtain ⟨m, rfl⟩ : ∃ q, m = q + 1 := ⟨m - 1, by omega⟩
    have I := un_Iall (C := ya_opC v) W P i (by omega)
    obtain ⟨e1, w1, w2⟩ := hU i (by omega)
    have e1' : ya_unset (ys_unset v U) i = un_yv (un_ty (ya_kind v) (ya_opA v) (ya_opC v) n i i) := e1
    rw [uy_unsetLine_70, hl, nI_clamp (by omega), e1', un_yneg w1 w2]
    refine br_f (nI_ge (by omega) (by omega)) ⟨vp_in_nI (by omega) (by decide), br_c (fun z => nm_r (nI_1 _) (ih (i + 1) U f (by omega) (un_SY_eq hU (fun t ht => ?_)) hf m (by omega))) (fun z => ?_)⟩
    · apply un_ext
      intro b
      rw [un_ty_s]
      constructor
      · rintro ⟨_, a | ⟨j, o, hY, _, hb⟩⟩
        · exact a
        · exact (un_Y0 W (by omega) z hY hb).elim
      · intro a; exact ⟨un_t7 (hU t ht).2.1 a, Or.inl a⟩
    · have hr : st_rest (ya_kind v) i := by
        by_cases q : st_rest (ya_kind v) i
        · exact q
        · exact absurd (I.2.2.2.2.2.2.2.2 i (by omega) q) z
      refine ys_spread T hU (by omega) hr z (fun U' y' f' hU' hy' hf' _ => nm_e (nm_r (nI_1 _) (ih (i + 1) U' _ (by omega) (un_SY_eq hU' (fun t ht => ?_)) (fl_or hf hf') m (by omega))))
      apply un_ext
      intro b
      rw [un_ty_s, hy' t ht b]
      constructor
      · rintro ⟨_, a⟩; exact a
      · intro a; exact ⟨un_t7 (hU' t ht).2.1 ((hy' t ht b).mpr a), a⟩
theorem yl_70b {post : Int32 → SY → Prop} {J : Int32 → Int32 → SY → Prop} {v : SY} {n x2 : Nat} (T : sy_st v n) (hJ : ∀ U, un_SY U (un_ty (ya_kind v) (ya_opA v) (ya_opC v) n n) n → J 0 (nI (x2 + 1)) (ys_unset v U)) :
    ∀ d i U, i + d = n → un_SY U (un_ty (ya_kind v) (ya_opA v) (ya_opC v) n n) n → ∀ m, d < m → cy_unsetLine_70 post J (nI x2) m 0 (nI i) (ys_unset v U) := by
  have n60 := T.2.1.1
  have W := T.2.1
  have P := sy_Pm T
  have I := un_Iall (C := ya_opC v) W P n (Nat.le_refl _)
  have hl : ∀ U, ya_lines (ys_unset v U) = nI n := fun _ => T.1
  intro d
  induction d with
  | zero =>
    intro i U hi hU m hm
    obtain ⟨m, rfl⟩ : ∃ q, m = q + 1 := ⟨m - 1, by omega⟩
    rw [uy_unsetLine_70, hl]
    exact br_t (nI_le (by omega) (by omega)) (nm_r (nI_1 _) (hJ U hU))
  | succ d ih =>
    intro i U hi hU m hm
    obtain ⟨m, rfl⟩ : ∃ q, m = q + 1 := ⟨m - 1, by omega⟩
    obtain ⟨e1, w1, w2⟩ := hU i (by omega)
    have e1' : ya_unset (ys_unset v U) i = un_yv (un_ty (ya_kind v) (ya_opA v) (ya_opC v) n n i) := e1
    rw [uy_unsetLine_70, hl, nI_clamp (by omega), e1', un_yneg w1 w2]
    refine br_f (nI_ge (by omega) (by omega)) ⟨vp_in_nI (by omega) (by decide), br_c (fun z => nm_r (nI_1 _) (ih (i + 1) U (by omega) hU m (by omega))) (fun z => ?_)⟩
    have hr : st_rest (ya_kind v) i := by
      by_cases q : st_rest (ya_kind v) i
      · exact q
      · exact absurd (I.2.2.2.2.2.2.2.2 i (by omega) q) z
    have sat : un_sat (ya_kind v) (ya_opA v) (ya_opC v) n i (un_ty (ya_kind v) (ya_opA v) (ya_opC v) n n i) (un_ty (ya_kind v) (ya_opA v) (ya_opC v) n n) := I.2.2.2.2.2.2.2.1 i (by omega) (by omega)
    refine ys_spread T hU (by omega) hr z (fun U' y' f' hU' hy' hf' hs => nm_r (show _ = 0 by rw [hs sat]; decide) (nm_r (nI_1 _) (ih (i + 1) U' (by omega) (un_SY_eq hU' (fun t ht => ?_)) m (by omega))))
    apply un_ext
    intro b
    rw [hy' t ht b]
    constructor
    · exact Or.inl
    · rintro (a | ⟨j, o, hY, hc, hb⟩)
      · exact a
      · rw [← hc]; exact sat j o hY b hb
theorem yl_unset {post : Int32 → SY → Prop} {v : SY} {n : Nat} (T : sy_st v n) (hp : ∀ r U, un_res (ya_kind v) (ya_opA v) (ya_opB v) (ya_opC v) n r → post r (ys_unset v U)) : wpY_unsetLine post v := by
  have n60 := T.2.1.1
  have P := sy_Pm T
  have hl : ∀ U, ya_lines (ys_unset v U) = nI n := fun _ => T.1
  have eK : ∀ U, ya_kind (ys_unset v U) = ya_kind v := fun _ => rfl
  have eA : ∀ U, ya_opA (ys_unset v U) = ya_opA v := fun _ => rfl
  have fin : ∀ U, un_SY U (un_ty (ya_kind v) (ya_opA v) (ya_opC v) n n) n → ∃ m, cy_unsetLine_109 post (ys_unset v U) m 0 := fun U hU => ⟨n + 1, yl_109 T hU (fun r hr => hp r U hr) n 0 (by omega) (fun j hj => by omega) _ (Nat.lt_succ_self _)⟩
  have r2 : ∀ U, un_SY U (un_ty (ya_kind v) (ya_opA v) (ya_opC v) n n) n → cy_unsetLine_55 post 1 0 (nI 2) (ys_unset v U) := by
    intro U hU
    rw [uy_unsetLine_55]
    exact br_f (by decide) (br_t rfl (fin U hU))
  have r1 : ∀ U f, un_SY U (un_ty (ya_kind v) (ya_opA v) (ya_opC v) n n) n → un_fl f → cy_unsetLine_55 post 2 f (nI 1) (ys_unset v U) := by
    intro U f hU hf
    rw [uy_unsetLine_55]
    refine br_f (by decide) (br_c (fun _ => fin U hU) (fun _ => ⟨n + 1, yl_70b T r2 n 0 U (by omega) hU _ (Nat.lt_succ_self _)⟩))
  have init : ∀ d i U, i + d = n → (∀ t, t < i → U t = un_yv (un_w0 (ya_kind v) (ya_opA v) t)) → ∀ m, d < m → cy_unsetLine_2 post m (nI i) (ys_unset v U) := by
    intro d
    induction d with
    | zero =>
      intro i U hi hU m hm
      obtain ⟨m, rfl⟩ : ∃ q, m = q + 1 := ⟨m - 1, by omega⟩
      rw [uy_unsetLine_2, hl]
      refine br_t (nI_le (by omega) (by omega)) ⟨3, ?_⟩
      rw [uy_unsetLine_55]
      refine br_f (by decide) (br_f (by decide) ⟨n + 1, yl_70a T (x2 := 0) r1 n 0 U 0 (by omega) (fun t ht => ⟨hU t (by omega), (un_w0_ok P ht).1, ?_⟩) (Or.inl rfl) _ (Nat.lt_succ_self _)⟩)
      rcases (un_w0_ok P ht).2 with z | z
      · exact Or.inl z
      · exact Or.inr (un_64 (un_w0_ok P ht).1 z)
    | succ d ih =>
      intro i U hi hU m hm
      obtain ⟨m, rfl⟩ : ∃ q, m = q + 1 := ⟨m - 1, by omega⟩
      have vi : vp_in (nI i) 60 := vp_in_nI (by omega) (by decide)
      have go : ∀ x, x = un_yv (un_w0 (ya_kind v) (ya_opA v) i) → cy_unsetLine_2 post m (nI (i + 1)) (ys_unset v (upd U i x)) := by
        intro x hx
        refine ih (i + 1) _ (by omega) (fun t ht => ?_) m (by omega)
        by_cases z : t = i
        · subst z; rw [pk_us]; exact hx
        · rw [pk_un z]; exact hU t (by omega)
      rw [uy_unsetLine_2, hl, nI_clamp (by omega), eK, eA]
      refine br_f (nI_ge (by omega) (by omega)) ⟨vi, br_c (fun k0 => ⟨vi, vi, nm_e (nm_r (nI_1 _) ?_)⟩) (fun k0 => ⟨vi, nm_e (nm_r (nI_1 _) ?_)⟩)⟩
      · rw [us_us]
        refine go _ ?_
        obtain ⟨p, hp3, ep⟩ := P i (by omega) k0
        unfold un_w0
        rw [if_pos k0, ep, nI_clamp (by omega)]
        have : p = 0 ∨ p = 1 ∨ p = 2 := by omega
        rcases this with z | z | z <;> (subst z; decide)
      · rw [us_us]
        refine go _ ?_
        unfold un_w0
        rw [if_neg k0]
        decide
  rw [uy_unsetLine]
  exact ⟨n + 1, init n 0 (ya_unset v) (by omega) (fun t ht => by omega) _ (Nat.lt_succ_self _)⟩
