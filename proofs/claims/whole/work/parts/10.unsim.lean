/-! UNSET: X's nodes against Y's -/
theorem un_opn {K : Nat → Int32} {n i : Nat} (W : st_wf K n) (hi : i < n) (h : st_op (K i)) : i + 1 ≤ st_e K i n ∧ st_e K i n < n ∧ K (st_e K i n) = 1 ∧ st_s K (st_e K i n) = i :: st_s K i ∧ (¬ K i = 0 → st_e K i n + 1 < n ∧ st_s K (st_e K i n + 1) = st_s K i) := sorry
/-- a block around a line: what is behind its END -/
theorem un_out {K : Nat → Int32} {n i l : Nat} (W : st_wf K n) (hi : i < n) (hl : l ∈ st_s K i) (k0 : ¬ K l = 0) : i < st_e K l n + 1 ∧ st_e K l n + 1 < n ∧ st_s K (st_e K l n + 1) = st_s K l ∧ (∀ b, b ∈ st_s K l → b ∈ st_s K i) := sorry
theorem un_s_0 {K A C : Nat → Int32} {i : Nat} (h : ¬ ln_set (K i)) : un_s K A C i = 0 := sorry
theorem un_sim {K A C : Nat → Int32} {n i w t b : Nat} (W : st_wf K n) (hi : i < n) (hm : ¬ st_mk (K i)) :
    (∃ m o, m < n ∧ un_X K A C n i w m o ∧ un_xt K n m = t ∧ (un_xo K A C m o).testBit b = true) ↔ (∃ j o, un_Y K A C n i w j o ∧ st_ch K n j = t ∧ o.testBit b = true) := sorry
/-- a mark: X hands on what lay there -/
theorem un_mark {K A C : Nat → Int32} {n i w t b : Nat} (W : st_wf K n) (hi : i < n) (hm : st_mk (K i)) (hw : w < 128) (hit : i < t) :
    (∃ m o, m < n ∧ un_X K A C n i w m o ∧ un_xt K n m = t ∧ (un_xo K A C m o).testBit b = true) ↔ (un_xt K n i = t ∧ (un_xo K A C i w).testBit b = true) := sorry
