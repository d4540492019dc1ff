/-! UNSET: the two passes -/
theorem ch_rng {K : Nat → Int32} {n : Nat} (W : st_wf K n) : ∀ d j, j < n → n - j ≤ d → (∀ b, b ∈ st_s K (st_ch K n j) → b ∈ st_s K j) ∧ (j ≤ st_ch K n j ∨ (K (st_ch K n j) = 4 ∧ st_ch K n j ∈ st_s K j)) ∧ (st_s K j ≠ [] → st_s K (st_ch K n j) ≠ []) := sorry
theorem un_i1 {K : Nat → Int32} {n i : Nat} (F : st_F K n) (hi : i < n) (h1 : ¬ K i = 1) : (∀ b, b ∈ st_s K (i + 1) → b = i ∨ b ∈ st_s K i) ∧ st_s K (i + 1) ≠ [] := sorry
theorem un_Y_rng {K A C : Nat → Int32} {n i w j o : Nat} (W : st_wf K n) (hi : i < n) (h : un_Y K A C n i w j o) : j < n ∧ i < j ∧ (∀ b, b ∈ st_s K j → b = i ∨ b ∈ st_s K i) ∧ st_s K j ≠ [] ∧ (∀ b, o.testBit b = true → w.testBit b = true) := sorry
theorem un_xn_ne {K : Nat → Int32} {n j : Nat} (W : st_wf K n) (hj : j < n) (h : st_s K j ≠ []) : st_s K (un_xn K n j) ≠ [] := sorry
theorem un_X_rng {K A C : Nat → Int32} {n i w m o : Nat} (W : st_wf K n) (hi : i < n) (h : un_X K A C n i w m o) : m < n ∧ i < m ∧ (∀ b, b ∈ st_s K m → b = i ∨ b ∈ st_s K i) ∧ st_s K m ≠ [] ∧ (∀ b, o.testBit b = true → w.testBit b = true) ∧ o = un_o K A C i w := sorry
noncomputable def un_bit (P : Prop) (v : Nat) : Nat := @ite Nat P (Classical.propDecidable P) v 0
noncomputable def un_bits (P : Nat → Prop) : Nat := un_bit (P 0) (2 ^ 0) ||| (un_bit (P 1) (2 ^ 1) ||| (un_bit (P 2) (2 ^ 2) ||| (un_bit (P 3) (2 ^ 3) ||| (un_bit (P 4) (2 ^ 4) ||| (un_bit (P 5) (2 ^ 5) ||| un_bit (P 6) (2 ^ 6))))))
theorem un_bit_t {P : Prop} {k b : Nat} : (un_bit P (2 ^ k)).testBit b = true ↔ P ∧ k = b := sorry
theorem un_bits_t {P : Nat → Prop} {b : Nat} : (un_bits P).testBit b = true ↔ b < 7 ∧ P b := sorry
theorem un_bit_lt {P : Prop} {k : Nat} (hk : k < 7) : un_bit P (2 ^ k) < 128 := sorry
theorem un_bits_lt {P : Nat → Prop} : un_bits P < 128 := sorry
theorem un_t7 {w b : Nat} (hw : w < 128) (h : w.testBit b = true) : b < 7 := sorry
theorem un_ext {a c : Nat} (h : ∀ b, a.testBit b = true ↔ c.testBit b = true) : a = c := sorry
