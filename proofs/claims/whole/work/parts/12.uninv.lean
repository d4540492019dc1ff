/-! UNSET: the trajectories, and what holds of them -/
def un_w0 (K A : Nat → Int32) (i : Nat) : Nat := if K i = 0 then 128 - 2 ^ (A i).toNatClampNeg else 0
noncomputable def un_ty (K A C : Nat → Int32) (n : Nat) : Nat → Nat → Nat
  | 0 => fun t => un_w0 K A t
  | i + 1 => fun t => un_bits (fun b => (un_ty K A C n i t).testBit b = true ∨ ∃ j o, un_Y K A C n i (un_ty K A C n i i) j o ∧ st_ch K n j = t ∧ o.testBit b = true)
def un_cur (K A : Nat → Int32) (i w : Nat) : Nat := if K i = 0 then un_w0 K A i else w
noncomputable def un_tx (K A C : Nat → Int32) (n : Nat) : Nat → Nat → Nat
  | 0 => fun _ => 0
  | i + 1 => fun t => un_bits (fun b => (if t = i then un_cur K A i (un_tx K A C n i i) else un_tx K A C n i t).testBit b = true ∨ ∃ o, un_X K A C n i (un_cur K A i (un_tx K A C n i i)) t o ∧ o.testBit b = true)
theorem un_ty_s {K A C : Nat → Int32} {n i t b : Nat} : (un_ty K A C n (i + 1) t).testBit b = true ↔ b < 7 ∧ ((un_ty K A C n i t).testBit b = true ∨ ∃ j o, un_Y K A C n i (un_ty K A C n i i) j o ∧ st_ch K n j = t ∧ o.testBit b = true) := sorry
theorem un_tx_s {K A C : Nat → Int32} {n i t b : Nat} : (un_tx K A C n (i + 1) t).testBit b = true ↔ b < 7 ∧ ((if t = i then un_cur K A i (un_tx K A C n i i) else un_tx K A C n i t).testBit b = true ∨ ∃ o, un_X K A C n i (un_cur K A i (un_tx K A C n i i)) t o ∧ o.testBit b = true) := sorry
theorem un_ty_lt {K A C : Nat → Int32} {n i t : Nat} : un_ty K A C n (i + 1) t < 128 := sorry
theorem un_tx_lt {K A C : Nat → Int32} {n i t : Nat} : un_tx K A C n (i + 1) t < 128 := sorry
/-- a program's params -/
def un_Pm (K A : Nat → Int32) (n : Nat) : Prop := ∀ i, i < n → K i = 0 → ∃ p, p < 3 ∧ A i = nI p
theorem un_w0_ok {K A : Nat → Int32} {n i : Nat} (P : un_Pm K A n) (hi : i < n) : un_w0 K A i < 128 ∧ (un_w0 K A i = 0 ∨ (un_w0 K A i).testBit 6 = true) := sorry
theorem un_o6 {K A C : Nat → Int32} {i w : Nat} (h : w.testBit 6 = true) : (un_o K A C i w).testBit 6 = true := sorry
theorem un_q {K A C : Nat → Int32} {m w b : Nat} : (un_xo K A C m w).testBit b = true ↔ w.testBit b = true ∧ (K m = 8 → (127 - un_s K A C m).testBit b = true) := sorry
/-- what holds at time i -/
def un_I (K A C : Nat → Int32) (n i : Nat) (x y : Nat → Nat) : Prop :=
  (∀ t, t < n → x t < 128 ∧ y t < 128 ∧ (x t = 0 ∨ (x t).testBit 6 = true) ∧ (y t = 0 ∨ (y t).testBit 6 = true)) ∧
  (∀ t, t < i → t < n → ¬ st_mk (K t) → y t = x t) ∧
  (∀ t, i ≤ t → t < n → ¬ K t = 0 → st_rest K t → ∀ b, (y t).testBit b = true ↔ ∃ m, i ≤ m ∧ m < n ∧ un_xt K n m = t ∧ (un_xo K A C m (x m)).testBit b = true) ∧
  (∀ t, t < n → K t = 0 → y t = un_w0 K A t) ∧ (∀ t, i ≤ t → t < n → K t = 0 → x t = 0) ∧
  (∀ m, i ≤ m → m < n → ¬ x m = 0 → ∀ b, b ∈ st_s K m → b < i) ∧
  (∀ t, t < n → ∀ c, c ∈ st_s K t → K c = 4 → ∀ b, (y t).testBit b = true → (y c).testBit b = true) ∧
  (∀ t, t < i → t < n → ∀ j o, un_Y K A C n t (y t) j o → ∀ b, o.testBit b = true → (y (st_ch K n j)).testBit b = true) ∧
  (∀ t, t < n → ¬ st_rest K t → y t = 0)
theorem un_0f {w : Nat} (h : w = 0) {b : Nat} (hb : w.testBit b = true) : False := sorry
theorem un_I0 {K A C : Nat → Int32} {n : Nat} (F : st_F K n) (P : un_Pm K A n) : un_I K A C n 0 (un_tx K A C n 0) (un_ty K A C n 0) := sorry
/-- at time i a line that is no mark has the same value on both sides -/
theorem un_same {K A C : Nat → Int32} {n i : Nat} {x y : Nat → Nat} (W : st_wf K n) (I : un_I K A C n i x y) (hi : i < n) (hm : ¬ st_mk (K i)) : un_cur K A i (x i) = y i := sorry
/-- lines up to i keep Y's value -/
theorem un_keep {K A C : Nat → Int32} {n i t : Nat} {x : Nat → Nat} (W : st_wf K n) (I : un_I K A C n i x (un_ty K A C n i)) (hi : i < n) (ht : t ≤ i) : un_ty K A C n (i + 1) t = un_ty K A C n i t := sorry
theorem un_IS {K A C : Nat → Int32} {n i : Nat} (W : st_wf K n) (P : un_Pm K A n) (hi : i < n) (I : un_I K A C n i (un_tx K A C n i) (un_ty K A C n i)) : un_I K A C n (i + 1) (un_tx K A C n (i + 1)) (un_ty K A C n (i + 1)) := sorry
theorem un_Iall {K A C : Nat → Int32} {n : Nat} (W : st_wf K n) (P : un_Pm K A n) : ∀ i, i ≤ n → un_I K A C n i (un_tx K A C n i) (un_ty K A C n i) := sorry
theorem un_fin {K A C : Nat → Int32} {n : Nat} (W : st_wf K n) (P : un_Pm K A n) {t : Nat} : ∀ i, t ≤ i → i ≤ n → un_ty K A C n i t = un_ty K A C n t t := sorry
