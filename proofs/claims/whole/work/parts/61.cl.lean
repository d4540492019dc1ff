/-! CLOSE -/
def c2 (f : Nat → Int32) : Nat → Nat
  | 0 => 0
  | i + 1 => c2 f i + if f i = 2 then 1 else 0
theorem c2_le {f : Nat → Int32} : ∀ i, c2 f i ≤ i := sorry
theorem c2_up {f : Nat → Int32} {b : Nat} (h : f b = 2) : ∀ i, (i ≤ b → c2 (upd f b 1) i = c2 f i) ∧ (b < i → c2 (upd f b 1) i + 1 = c2 f i) := sorry
theorem c2_0 {f : Nat → Int32} : ∀ i, c2 f i = 0 → ∀ b, b < i → ¬ f b = 2 := sorry
theorem wz0 {e : Nat} : wsh e 0 = nI e := sorry
theorem wz1 {e : Nat} : wsh e 1 = -(nI e) := sorry
theorem cl_n37 {W : Nat} {r : Option Nat} {u : SX} {v : SY} {n S e : Nat} (H : rl_co W r u v n S) (q : bst u S (e + 1) 0 = none) : ∀ d i, i + d = 12 → ∀ (P : SX → Prop) m, d < m → (∃ m9, cx_closeChannel_99 P (nI (e + 1)) m9 0 u) → cx_closeChannel_37 P (nI (e + 1)) m (nI i) u := sorry
theorem cl_n99 {W : Nat} {r : Option Nat} {u : SX} {v : SY} {n S e : Nat} (H : rl_co W r u v n S) (q : bst u S (e + 1) 1 = none) : ∀ d i, i + d = 12 → ∀ (P : SX → Prop) m, d < m → P u → cx_closeChannel_99 P (nI (e + 1)) m (nI i) u := sorry
theorem cl_37 {W n S g j e : Nat} (e8 : e < 8) : ∀ d i u v, i + d = 12 → rl_mid W u v n S g (j + 1) → c2 (ya_status v) 12 ≤ d →
    ∃ u' v', (∀ (P : SX → Prop) m, d < m → (∃ m9, cx_closeChannel_99 P (nI (e + 1)) m9 0 u') → cx_closeChannel_37 P (nI (e + 1)) m (nI i) u) ∧ (∀ (P : SY → Prop) m, d < m → wpY_longest (fun r_46 => ∃ n59 : Nat, cy_close_59 P (nI (e + 1)) n59 r_46 v') v' (nI (e + 1)) 1 → ∀ R : Int32 → Prop, (∀ r, cy_close_16 P (nI (e + 1)) m r v → R r) → wpY_longest R v (nI (e + 1)) 0) ∧ sr_ok W u u' v v' n S g j ∧ xa_position u' (4 * g + j) = xa_position u (4 * g + j) := sorry
theorem cl_99 {W n S g j e : Nat} (e8 : e < 8) : ∀ d i u v, i + d = 12 → rl_mid W u v n S g (j + 1) → c2 (ya_status v) 12 ≤ d →
    ∃ u' v', (∀ (P : SX → Prop) m, d < m → P u' → cx_closeChannel_99 P (nI (e + 1)) m (nI i) u) ∧ (∀ (P : SY → Prop) m, d < m → P v' → ∀ R : Int32 → Prop, (∀ r, cy_close_59 P (nI (e + 1)) m r v → R r) → wpY_longest R v (nI (e + 1)) 1) ∧ sr_ok W u u' v v' n S g j ∧ xa_position u' (4 * g + j) = xa_position u (4 * g + j) := sorry
theorem ek_12 {W : Nat} {u : SX} {v : SY} {n S g j i : Nat} (E : ex_at W u v n S g j i) (k : xa_kinds u i = 12) : ex_x W u v g i := sorry
