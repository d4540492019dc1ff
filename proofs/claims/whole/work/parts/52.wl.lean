/-! where a goroutine waits for a channel: Y's waitLine, X's slots -/
theorem wi_s {K A B vars : Nat → Int32} {t j m c : Nat} (c1 : 1 ≤ c) (c8 : c ≤ 8) (m8 : m ≤ 8) : rl_wish K A B vars t (nI m) j = -(nI c) ↔ ((K j = 7 ∨ K j = 10) ∧ rl_val vars t (A j) = nI c ∧ c ≤ m) := sorry
theorem wi_r {K A B vars : Nat → Int32} {t j m c : Nat} (c1 : 1 ≤ c) (c8 : c ≤ 8) (m8 : m ≤ 8) : rl_wish K A B vars t (nI m) j = nI c ↔ (¬ (K j = 7 ∨ K j = 10) ∧ rl_val vars t (B j) = nI c ∧ c ≤ m) := sorry
/-- the wish for channel c, to send (sn = 1) or to receive (sn = 0) -/
def wsh (c : Nat) (sn : Int32) : Int32 := if sn = 0 then nI c else -(nI c)
theorem wsh_0 {c : Nat} {sn : Int32} (c1 : 1 ≤ c) (c8 : c ≤ 8) : ¬ (0 : Int32) = wsh c sn := sorry
/-- a line that offers channel c -/
def wl_is (K A B vars : Nat → Int32) (t m c : Nat) (sn : Int32) (j : Nat) : Prop := c ≤ m ∧ ((sn = 0 ∧ ¬ (K j = 7 ∨ K j = 10) ∧ rl_val vars t (B j) = nI c) ∨ (¬ sn = 0 ∧ (K j = 7 ∨ K j = 10) ∧ rl_val vars t (A j) = nI c))
theorem wi_w {K A B vars : Nat → Int32} {t j m c : Nat} {sn : Int32} (c1 : 1 ≤ c) (c8 : c ≤ 8) (m8 : m ≤ 8) : rl_wish K A B vars t (nI m) j = wsh c sn ↔ wl_is K A B vars t m c sn j := sorry
theorem n_const {K : Nat → Int32} {P : Int32 → Bool} {o a : Nat} : ∀ b, a ≤ b → (∀ k, a ≤ k → k < b → ¬ ((st_s K k).head? = some o ∧ P (K k) = true)) → st_n K P o b = st_n K P o a := sorry
/-- SELECT: the loop over its cases -/
theorem wl_sel {Q : Int32 → Prop} {u : SX} {v : SY} {n g j w m c : Nat} {sn : Int32} (T : sy_st v n) (hg : g < 12) (j4 : j < 4) (hd : ya_depth v g = nI (j + 1)) (B1 : ya_kind v = xa_kinds u) (B2 : ya_opA v = xa_argA u) (B3 : ya_opB v = xa_argB u) (B18 : ya_vars v = xa_variables u) (hw : w < n) (k6 : xa_kinds u w = 6) (c1 : 1 ≤ c) (c8 : c ≤ 8) (m8 : m ≤ 8) (cm : c ≤ m) (hsn : sn = 0 ∨ sn = 1)
    (sl1 : ∀ l, l < n → (st_s (xa_kinds u) l).head? = some w → st_pc (xa_kinds u l) = true → xa_slotLine u (3 * g + st_n (xa_kinds u) st_pc w l) = nI l ∧ xa_slotWish u (3 * g + st_n (xa_kinds u) st_pc w l) = rl_wish (xa_kinds u) (xa_argA u) (xa_argB u) (xa_variables u) (4 * g + j) (nI m) l)
    (sl2 : ∀ i, st_n (xa_kinds u) st_pc w n ≤ i → i < 3 → xa_slotWish u (3 * g + i) = 0)
    (hS : ∀ i l, fs (xa_slotWish u) (wsh c sn) g = some i → xa_slotLine u (3 * g + i) = nI l → l < n → st_pc (xa_kinds u l) = true → wl_is (xa_kinds u) (xa_argA u) (xa_argB u) (xa_variables u) (4 * g + j) m c sn l → Q (nI l)) (hN : fs (xa_slotWish u) (wsh c sn) g = none → Q (-1)) :
    ∀ d i, (i = w ∨ (st_P (ya_kind v) w i ∧ i < n)) → n - i ≤ d → (∀ k, k < st_n (xa_kinds u) st_pc w (i + 1) → k < 3 → ¬ xa_slotWish u (3 * g + k) = wsh c sn) → ∀ R : Int32 → Prop, (∀ r, cy_waitLine_142 Q (nI g) (nI c) sn (nI w) v (d + 1) r → R r) → wpY_part R v (nI w) (nI i) := sorry
