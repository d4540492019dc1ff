/-! SELECT -/
def cs_w (u : SX) (v : SY) (t l : Nat) : Prop := (xa_kinds u l = 7 → (∀ P : Int32 → SX → Prop, P 1 u → wpX_trySend P u (nI t) (nI l)) ∧ (∀ Q : Int32 → Prop, Q 0 → wpY_canSend Q v (rl_val (xa_variables u) t (xa_argA u l)))) ∧
  (xa_kinds u l = 8 → (∀ P : Int32 → SX → Prop, P 1 u → wpX_tryReceive P u (nI t) (nI l)) ∧ (∀ Q : Int32 → Prop, Q 0 → wpY_canReceive Q v (rl_val (xa_variables u) t (xa_argB u l))))
/-- a case of SELECT w -/
def cs_is (K : Nat → Int32) (n w l : Nat) : Prop := l < n ∧ (st_s K l).head? = some w ∧ st_pc (K l) = true
theorem cm_fw {u : SX} {v : SY} {n t w : Nat} (T : sx_st u n) (hw : w < n) (k6 : xa_kinds u w = 6) : ∀ d i, w + d = i → i ≤ st_e (xa_kinds u) w n + 1 → (∀ l, l < i → cs_is (xa_kinds u) n w l → cs_w u v t l) → ∀ (P : SX → Prop) m, cx_communicate_25 P (nI t) (nI w) (nI (st_e (xa_kinds u) w n)) m (nI i) u → cx_communicate_25 P (nI t) (nI w) (nI (st_e (xa_kinds u) w n)) (m + d) (nI w) u := sorry
/-- Y passes over a part -/
theorem ys_skip {P : SY → Prop} {u : SX} {v : SY} {n g j w l m : Nat} {x3 : Int32} (T : sy_st v n) (hg : g < 12) (j4 : j < 4) (hd : ya_depth v g = nI (j + 1)) (B1 : ya_kind v = xa_kinds u) (B2 : ya_opA v = xa_argA u) (B3 : ya_opB v = xa_argB u) (B18 : ya_vars v = xa_variables u) (hl : l < n) (hk : st_pa (xa_kinds u l) = true ∨ (st_pc (xa_kinds u l) = true ∧ cs_w u v (4 * g + j) l))
    (h : wpY_part (fun r => cy_select_10 P (nI g) (nI w) v m (if st_pa (xa_kinds u l) = true then nI l else x3) r) v (nI w) (nI l)) : cy_select_10 P (nI g) (nI w) v (m + 1) x3 (nI l) := sorry
/-- a part of a SELECT is a section -/
theorem P_sec {K : Nat → Int32} {n w l : Nat} (W : st_wf K n) (k6 : K w = 6) (hl : l < n) (h : st_P K w l) : st_pa (K l) = true ∨ st_pc (K l) = true := sorry
theorem ys_act {P : SY → Prop} {u : SX} {v : SY} {n g j w l : Nat} (T : sy_st v n) (hg : g < 12) (j4 : j < 4) (hd : ya_depth v g = nI (j + 1)) (B1 : ya_kind v = xa_kinds u) (B2 : ya_opA v = xa_argA u) (B3 : ya_opB v = xa_argB u) (B18 : ya_vars v = xa_variables u) (hw : w < n) (k6 : xa_kinds u w = 6) (hl : cs_is (xa_kinds u) n w l) (hc : ∀ l', l' < l → cs_is (xa_kinds u) n w l' → cs_w u v (4 * g + j) l') (h : ∀ m x3, cy_select_10 P (nI g) (nI w) v (m + 1) x3 (nI l)) :
    ∀ d i x3, (i = w ∨ (st_P (ya_kind v) w i ∧ i < n)) → i < l → l - i ≤ d → ∀ R : Int32 → Prop, (∀ r, cy_select_10 P (nI g) (nI w) v (d + 1) x3 r → R r) → wpY_part R v (nI w) (nI i) := sorry
/-- the alternative that was seen up to line i -/
def ot_ok (K : Nat → Int32) (n w i : Nat) (x : Int32) : Prop := (∃ a, al_is K n w a ∧ a ≤ i ∧ x = nI a) ∨ ((∀ a, a ≤ i → ¬ al_is K n w a) ∧ x = -1)
theorem ys_end {P : SY → Prop} {u : SX} {v : SY} {n g j w : Nat} (T : sy_st v n) (hg : g < 12) (j4 : j < 4) (hd : ya_depth v g = nI (j + 1)) (B1 : ya_kind v = xa_kinds u) (B2 : ya_opA v = xa_argA u) (B3 : ya_opB v = xa_argB u) (B18 : ya_vars v = xa_variables u) (hw : w < n) (k6 : xa_kinds u w = 6) (hc : ∀ l', cs_is (xa_kinds u) n w l' → cs_w u v (4 * g + j) l') (h : ∀ m x3, ot_ok (xa_kinds u) n w n x3 → cy_select_10 P (nI g) (nI w) v (m + 1) x3 (-1)) :
    ∀ d i x3, (i = w ∨ (st_P (ya_kind v) w i ∧ i < n)) → n - i ≤ d → ot_ok (xa_kinds u) n w i x3 → ∀ R : Int32 → Prop, (∀ r, cy_select_10 P (nI g) (nI w) v (d + 1) x3 r → R r) → wpY_part R v (nI w) (nI i) := sorry
theorem fst_ex {p : Nat → Prop} : ∀ n, (∃ l, l < n ∧ p l) → ∃ l, l < n ∧ p l ∧ ∀ l', l' < l → ¬ p l' := sorry
