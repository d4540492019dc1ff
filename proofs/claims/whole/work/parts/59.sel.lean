/-! SELECT -/
def cs_w (u : SX) (v : SY) (t l : Nat) : Prop := (xa_kinds u l = 7 → (∀ P : Int32 → SX → Prop, P 1 u → wpX_trySend P u (nI t) (nI l)) ∧ (∀ Q : Int32 → Prop, Q 0 → wpY_canSend Q v (rl_val (xa_variables u) t (xa_argA u l)))) ∧
  (xa_kinds u l = 8 → (∀ P : Int32 → SX → Prop, P 1 u → wpX_tryReceive P u (nI t) (nI l)) ∧ (∀ Q : Int32 → Prop, Q 0 → wpY_canReceive Q v (rl_val (xa_variables u) t (xa_argB u l))))
/-- a case of SELECT w -/
def cs_is (K : Nat → Int32) (n w l : Nat) : Prop := l < n ∧ (st_s K l).head? = some w ∧ st_pc (K l) = true
theorem cm_fw {u : SX} {v : SY} {n t w : Nat} (T : sx_st u n) (hw : w < n) (k6 : xa_kinds u w = 6) : ∀ d i, w + d = i → i ≤ st_e (xa_kinds u) w n + 1 → (∀ l, l < i → cs_is (xa_kinds u) n w l → cs_w u v t l) → ∀ (P : SX → Prop) m, cx_communicate_25 P (nI t) (nI w) (nI (st_e (xa_kinds u) w n)) m (nI i) u → cx_communicate_25 P (nI t) (nI w) (nI (st_e (xa_kinds u) w n)) (m + d) (nI w) u := by
  have n60 := T.2.1.1
  have op : st_op (xa_kinds u w) := by rw [k6]; decide
  obtain ⟨p1, p2, p3, p4, p5⟩ := un_opn T.2.1 hw op
  intro d
  induction d with
  | zero =>
    intro i hi _ _ P m h
    have : i = w := by omega
    subst this
    exact h
  | succ d ih =>
    intro i hi hie hc P m h
    obtain ⟨i, rfl⟩ : ∃ q, i = q + 1 := ⟨i - 1, by omega⟩
    rw [show m + (d + 1) = (m + 1) + d by omega]
    refine ih i (by omega) (by omega) (fun l hl => hc l (by omega)) P (m + 1) ?_
    have ins : i < n := by omega
    have fin : cx_communicate_75 P (cx_communicate_25 P (nI t) (nI w) (nI (st_e (xa_kinds u) w n)) m) (nI t) (nI w) (nI (st_e (xa_kinds u) w n)) (nI i) 1 u := by
      rw [ux_communicate_75]
      exact br_f (by decide) (br_f (by decide) (nm_r (nI_1 _) h))
    rw [ux_communicate_25]
    refine br_f (nI_nlt (by omega) (by omega)) (xs_of T hw ins (fun z => br_f (by decide) ?_) (fun z => br_t rfl (xr_of T hw ins (fun y => br_f (by decide) ?_) (fun y => br_t rfl fin))))
    · have cc := (c_pc (w := w) k6).mp (Or.inl z)
      have k7 : xa_kinds u i = 7 := by
        rcases z with ⟨q, z⟩ | ⟨_, _, z⟩
        · subst q; rw [k6] at z; exact absurd z (by decide)
        · exact z
      exact ((hc i (by omega) ⟨ins, cc.1, cc.2⟩).1 k7).1 _ fin
    · have cc := (c_pc (w := w) k6).mp (Or.inr y)
      have k8 : xa_kinds u i = 8 := by
        rcases y with ⟨q, y⟩ | ⟨_, _, y⟩
        · subst q; rw [k6] at y; exact absurd y (by decide)
        · exact y
      exact ((hc i (by omega) ⟨ins, cc.1, cc.2⟩).2 k8).1 _ fin
/-- Y passes over a part -/
theorem ys_skip {P : SY → Prop} {u : SX} {v : SY} {n g j w l m : Nat} {x3 : Int32} (T : sy_st v n) (hg : g < 12) (j4 : j < 4) (hd : ya_depth v g = nI (j + 1)) (B1 : ya_kind v = xa_kinds u) (B2 : ya_opA v = xa_argA u) (B3 : ya_opB v = xa_argB u) (B18 : ya_vars v = xa_variables u) (hl : l < n) (hk : st_pa (xa_kinds u l) = true ∨ (st_pc (xa_kinds u l) = true ∧ cs_w u v (4 * g + j) l))
    (h : wpY_part (fun r => cy_select_10 P (nI g) (nI w) v m (if st_pa (xa_kinds u l) = true then nI l else x3) r) v (nI w) (nI l)) : cy_select_10 P (nI g) (nI w) v (m + 1) x3 (nI l) := by
  have n60 := T.2.1.1
  have cl : (nI l).toNatClampNeg = l := nI_clamp (by omega)
  have vl : vp_in (nI l) 60 := vp_in_nI (by omega) (by decide)
  have nxt : ∀ x, x = (if st_pa (xa_kinds u l) = true then nI l else x3) → cy_select_187 P (cy_select_10 P (nI g) (nI w) v m) (nI g) (nI w) x (nI l) v := by
    intro x hx
    rw [uy_select_187, hx]
    exact h
  rw [uy_select_10, cl, B1]
  refine br_f (nI_pos (by omega)) ⟨vl, ?_⟩
  rcases hk with pa | ⟨pc, cw⟩
  · have ge : ¬ xa_kinds u l < 9 := by rcases st_pa_iff.mp pa with z | z <;> (rw [z]; decide)
    have n7 : ¬ xa_kinds u l = 7 := by rcases st_pa_iff.mp pa with z | z <;> (rw [z]; decide)
    have n8 : ¬ xa_kinds u l = 8 := by rcases st_pa_iff.mp pa with z | z <;> (rw [z]; decide)
    refine br_f ge ?_
    rw [uy_select_65, cl, B1]
    refine ⟨vl, br_f ge ?_⟩
    rw [uy_select_82, cl, B1]
    refine ⟨vl, br_f n7 ?_⟩
    rw [uy_select_147, cl, B1]
    exact ⟨vl, br_f n8 (nxt _ (by rw [if_pos pa]))⟩
  · have npa : ¬ st_pa (xa_kinds u l) = true := by rcases st_pc_iff.mp pc with z | z <;> (rw [z]; decide)
    rcases st_pc_iff.mp pc with k | k
    · have lt : xa_kinds u l < 9 := by rw [k]; decide
      refine br_t lt ⟨vl, br_t k ⟨vl, ?_⟩⟩
      rw [uy_select_62, B2]
      refine yv_val hg j4 hd ?_
      rw [B18, uy_select_65, cl, B1]
      refine ⟨vl, br_t lt ?_⟩
      rw [uy_select_82, cl, B1]
      refine ⟨vl, br_t k ((cw.1 k).2 _ (br_t rfl ?_))⟩
      rw [uy_select_147, cl, B1]
      exact ⟨vl, br_f (by rw [k]; decide) (nxt _ (by rw [if_neg npa]))⟩
    · have lt : xa_kinds u l < 9 := by rw [k]; decide
      refine br_t lt ⟨vl, br_f (by rw [k]; decide) ⟨vl, ?_⟩⟩
      rw [uy_select_62, B3]
      refine yv_val hg j4 hd ?_
      rw [B18, uy_select_65, cl, B1]
      refine ⟨vl, br_t lt ?_⟩
      rw [uy_select_82, cl, B1]
      refine ⟨vl, br_f (by rw [k]; decide) ?_⟩
      rw [uy_select_147, cl, B1]
      refine ⟨vl, br_t k ((cw.2 k).2 _ (br_t rfl (nxt _ (by rw [if_neg npa]))))⟩
/-- a part of a SELECT is a section -/
theorem P_sec {K : Nat → Int32} {n w l : Nat} (W : st_wf K n) (k6 : K w = 6) (hl : l < n) (h : st_P K w l) : st_pa (K l) = true ∨ st_pc (K l) = true := by
  rcases h.2 with z | z
  · obtain ⟨o', r', e', k'⟩ := W.2.2.2.1 l hl z
    have := h.1
    rw [e'] at this
    have : o' = w := by simpa using this
    rw [this, k6] at k'; exact absurd k' (by decide)
  · rcases sec_or.mp z with y | y
    · exact Or.inr y
    · exact Or.inl y
theorem ys_act {P : SY → Prop} {u : SX} {v : SY} {n g j w l : Nat} (T : sy_st v n) (hg : g < 12) (j4 : j < 4) (hd : ya_depth v g = nI (j + 1)) (B1 : ya_kind v = xa_kinds u) (B2 : ya_opA v = xa_argA u) (B3 : ya_opB v = xa_argB u) (B18 : ya_vars v = xa_variables u) (hw : w < n) (k6 : xa_kinds u w = 6) (hl : cs_is (xa_kinds u) n w l) (hc : ∀ l', l' < l → cs_is (xa_kinds u) n w l' → cs_w u v (4 * g + j) l') (h : ∀ m x3, cy_select_10 P (nI g) (nI w) v (m + 1) x3 (nI l)) :
    ∀ d i x3, (i = w ∨ (st_P (ya_kind v) w i ∧ i < n)) → i < l → l - i ≤ d → ∀ R : Int32 → Prop, (∀ r, cy_select_10 P (nI g) (nI w) v (d + 1) x3 r → R r) → wpY_part R v (nI w) (nI i) := by
  have n60 := T.2.1.1
  have op : st_op (ya_kind v w) := by rw [B1, k6]; decide
  have W := T.2.1
  rw [B1] at W
  have pl : st_P (ya_kind v) w l := by rw [B1]; exact ⟨hl.2.1, Or.inr (sec_or.mpr (Or.inl hl.2.2))⟩
  have ein := al_in W hl.1 hl.2.1 (by rcases st_pc_iff.mp hl.2.2 with e | e <;> (rw [e]; decide))
  intro d
  induction d with
  | zero => intro i x3 _ h1 h2; omega
  | succ d ih =>
    intro i x3 hi il hd' R hR
    refine sy_part T hw op hi (fun j' a1 a2 a3 a4 => hR _ ?_) (fun z => absurd pl (z l il (by rw [B1]; exact ein.2)))
    have j'n : j' < n := by
      have := (un_opn T.2.1 hw op).2.1
      omega
    have le : ¬ l < j' := fun z => a4 l il z pl
    by_cases e : j' = l
    · rw [e]; exact h _ _
    · have a3' := a3
      rw [B1] at a3
      refine ys_skip (u := u) T hg j4 hd B1 B2 B3 B18 j'n ?_ (ih j' _ (Or.inr ⟨a3', j'n⟩) (by omega) (by omega) _ (fun r hr => hr))
      rcases P_sec W k6 j'n a3 with z | z
      · exact Or.inl z
      · exact Or.inr ⟨z, hc j' (by omega) ⟨j'n, a3.1, z⟩⟩
/-- the alternative that was seen up to line i -/
def ot_ok (K : Nat → Int32) (n w i : Nat) (x : Int32) : Prop := (∃ a, al_is K n w a ∧ a ≤ i ∧ x = nI a) ∨ ((∀ a, a ≤ i → ¬ al_is K n w a) ∧ x = -1)
theorem ys_end {P : SY → Prop} {u : SX} {v : SY} {n g j w : Nat} (T : sy_st v n) (hg : g < 12) (j4 : j < 4) (hd : ya_depth v g = nI (j + 1)) (B1 : ya_kind v = xa_kinds u) (B2 : ya_opA v = xa_argA u) (B3 : ya_opB v = xa_argB u) (B18 : ya_vars v = xa_variables u) (hw : w < n) (k6 : xa_kinds u w = 6) (hc : ∀ l', cs_is (xa_kinds u) n w l' → cs_w u v (4 * g + j) l') (h : ∀ m x3, ot_ok (xa_kinds u) n w n x3 → cy_select_10 P (nI g) (nI w) v (m + 1) x3 (-1)) :
    ∀ d i x3, (i = w ∨ (st_P (ya_kind v) w i ∧ i < n)) → n - i ≤ d → ot_ok (xa_kinds u) n w i x3 → ∀ R : Int32 → Prop, (∀ r, cy_select_10 P (nI g) (nI w) v (d + 1) x3 r → R r) → wpY_part R v (nI w) (nI i) := by
  have n60 := T.2.1.1
  have op : st_op (ya_kind v w) := by rw [B1, k6]; decide
  have W := T.2.1
  have ok := T.2.2.2.1
  rw [B1] at W ok
  intro d
  induction d with
  | zero =>
    intro i x3 hi h1
    rcases hi with z | z <;> omega
  | succ d ih =>
    intro i x3 hi hd' ho R hR
    refine sy_part T hw op hi (fun j' a1 a2 a3 a4 => hR _ ?_) (fun z => hR _ (h _ _ ?_))
    · have j'n : j' < n := by
        have := (un_opn T.2.1 hw op).2.1
        omega
      have a3' := a3
      rw [B1] at a3 a4
      have sec := P_sec W k6 j'n a3
      refine ys_skip (u := u) T hg j4 hd B1 B2 B3 B18 j'n ?_ (ih j' _ (Or.inr ⟨a3', j'n⟩) (by omega) ?_ _ (fun r hr => hr))
      · rcases sec with z | z
        · exact Or.inl z
        · exact Or.inr ⟨z, hc j' ⟨j'n, a3.1, z⟩⟩
      · by_cases pa : st_pa (xa_kinds u j') = true
        · rw [if_pos pa]
          exact Or.inl ⟨j', ⟨j'n, a3.1, pa⟩, Nat.le_refl _, rfl⟩
        · rw [if_neg pa]
          rcases ho with ⟨a, o1, o2, o3⟩ | ⟨o1, o2⟩
          · exact Or.inl ⟨a, o1, by omega, o3⟩
          · refine Or.inr ⟨fun a ha y => ?_, o2⟩
            rcases Nat.lt_or_ge i a with q | q
            · by_cases e : a = j'
              · subst e; exact pa y.2.2
              · exact a4 a q (by omega) ⟨y.2.1, Or.inr (sec_or.mpr (Or.inr y.2.2))⟩
            · exact o1 a q y
    · rw [B1] at z
      rcases ho with ⟨a, o1, o2, o3⟩ | ⟨o1, o2⟩
      · exact Or.inl ⟨a, o1, by have := o1.1; omega, o3⟩
      · refine Or.inr ⟨fun a ha y => ?_, o2⟩
        rcases Nat.lt_or_ge i a with q | q
        · have := al_in W y.1 y.2.1 (al_n1 y.2.2)
          exact z a q this.2 ⟨y.2.1, Or.inr (sec_or.mpr (Or.inr y.2.2))⟩
        · exact o1 a q y
theorem fst_ex {p : Nat → Prop} : ∀ n, (∃ l, l < n ∧ p l) → ∃ l, l < n ∧ p l ∧ ∀ l', l' < l → ¬ p l' := by
  intro n
  induction n with
  | zero => rintro ⟨l, h, _⟩; omega
  | succ n ih =>
    rintro ⟨l, h, hp⟩
    by_cases c : ∃ l, l < n ∧ p l
    · obtain ⟨l, a, b⟩ := ih c
      exact ⟨l, by omega, b⟩
    · exact ⟨l, h, hp, fun l' hl' q => c ⟨l', by omega, q⟩⟩
