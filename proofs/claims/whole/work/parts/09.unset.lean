/-! UNSET: the pure side. A value w below 128: 0 is 'not reached', 64 + m is 'reached, m may be unset' -/
def un_b (x : Int32) : Nat := if x < 0 then 0 else if (6 : Int32) ≤ x then 0 else 2 ^ x.toNatClampNeg
theorem un_b_in {x : Int32} (h0 : ¬ x < 0) (h6 : ¬ (6 : Int32) ≤ x) : ∃ a, a < 6 ∧ x = nI a ∧ un_b x = 2 ^ a := sorry
theorem un_b_nI {a : Nat} (h : a < 6) : un_b (nI a) = 2 ^ a := sorry
theorem un_p6 : ∀ a, a < 6 → 2 ^ a < 64 := sorry
theorem un_b_lt (x : Int32) : un_b x < 64 := sorry
theorem un_shl : ∀ a, a < 6 → (1 : Int32) <<< (nI a &&& 31) = nI (2 ^ a) := sorry
def un_s (K A C : Nat → Int32) (i : Nat) : Nat := if K i = 8 ∨ K i = 11 then un_b (A i) ||| un_b (C i) else if ln_set (K i) then un_b (A i) else 0
theorem un_or64 {a b : Nat} (ha : a < 64) (hb : b < 64) : a ||| b < 64 := sorry
theorem un_or128 {a b : Nat} (ha : a < 128) (hb : b < 128) : a ||| b < 128 := sorry
theorem un_s_lt {K A C : Nat → Int32} {i : Nat} : un_s K A C i < 64 := sorry
def un_o (K A C : Nat → Int32) (i w : Nat) : Nat := w &&& (127 - un_s K A C i)
theorem un_o_lt {K A C : Nat → Int32} {i w : Nat} : un_o K A C i w < 128 := sorry
theorem un_o_sub {K A C : Nat → Int32} {i w b : Nat} (h : (un_o K A C i w).testBit b = true) : w.testBit b = true := sorry
theorem un_o_or {K A C : Nat → Int32} {i w o b : Nat} : (un_o K A C i (w ||| o)).testBit b = true ↔ (un_o K A C i w).testBit b = true ∨ (un_o K A C i o).testBit b = true := sorry
theorem un_o_0 {K A C : Nat → Int32} {i w : Nat} (h : un_s K A C i = 0) (hw : w < 128) : un_o K A C i w = w := sorry
def un_pt (K : Nat → Int32) (i q : Nat) : Prop := (st_s K q).head? = some i ∧ st_sec (K q)
/-- where an IF goes when its value is 0 -/
def un_ot (K : Nat → Int32) (n i j : Nat) : Prop := (∃ e, e < n ∧ K e = 3 ∧ (st_s K e).head? = some i ∧ j = e + 1) ∨ (¬ st_el K i n ∧ j = st_e K i n + 1)
def un_oe (K : Nat → Int32) (n i m : Nat) : Prop := (m < n ∧ K m = 3 ∧ (st_s K m).head? = some i) ∨ (¬ st_el K i n ∧ m = st_e K i n)
/-- Y: what line i passes on, and where -/
def un_Y (K A C : Nat → Int32) (n i w j o : Nat) : Prop :=
  (K i = 5 ∧ (∃ l, (st_s K i).find? (fun b => K b == 4) = some l ∧ j = st_e K l n + 1) ∧ o = un_o K A C i w) ∨
  (K i = 6 ∧ ∃ q, q < n ∧ un_pt K i q ∧ j = q + 1 ∧ o = (if K q = 8 then un_o K A C q (un_o K A C i w) else un_o K A C i w)) ∨
  (¬ K i = 1 ∧ ¬ K i = 5 ∧ ¬ K i = 6 ∧ ¬ K i = 17 ∧ ¬ K i = 18 ∧ (j = i + 1 ∨ (K i = 2 ∧ un_ot K n i j) ∨ (K i = 4 ∧ j = st_e K i n + 1)) ∧ o = un_o K A C i w)
def un_xn (K : Nat → Int32) (n j : Nat) : Nat := if K j = 3 ∨ st_sec (K j) then (match st_s K j with
  | [] => j
  | o :: _ => st_e K o n) else j
/-- X: what line i passes on, and where -/
def un_X (K A C : Nat → Int32) (n i w m o : Nat) : Prop :=
  (K i = 5 ∧ (∃ l, (st_s K i).find? (fun b => K b == 4) = some l ∧ m = un_xn K n (st_e K l n + 1)) ∧ o = un_o K A C i w) ∨
  (K i = 6 ∧ m < n ∧ un_pt K i m ∧ o = un_o K A C i w) ∨
  (K i = 1 ∧ (∃ q r, st_s K i = q :: r ∧ (K q = 2 ∨ K q = 6)) ∧ m = un_xn K n (i + 1) ∧ o = un_o K A C i w) ∨
  (¬ K i = 1 ∧ ¬ K i = 5 ∧ ¬ K i = 6 ∧ ¬ K i = 17 ∧ ¬ K i = 18 ∧ (m = un_xn K n (i + 1) ∨ (K i = 2 ∧ un_oe K n i m) ∨ (K i = 4 ∧ m = un_xn K n (st_e K i n + 1))) ∧ o = un_o K A C i w)
/-- where the value of X's node m belongs, and how much of it -/
def un_xt (K : Nat → Int32) (n m : Nat) : Nat := if K m = 3 ∨ st_sec (K m) then st_ch K n (m + 1) else st_ch K n m
def un_xo (K A C : Nat → Int32) (m w : Nat) : Nat := if K m = 8 then un_o K A C m w else w
theorem un_xo_or {K A C : Nat → Int32} {m w o b : Nat} : (un_xo K A C m (w ||| o)).testBit b = true ↔ (un_xo K A C m w).testBit b = true ∨ (un_xo K A C m o).testBit b = true := sorry
theorem un_hdo {K : Nat → Int32} {i q : Nat} (h : (st_s K q).head? = some i) : ∃ r, st_s K q = i :: r ∧ i < q ∧ st_op (K i) ∧ st_s K i = r := sorry
/-- a line inside a block has a next line -/
theorem un_nx {K : Nat → Int32} {n i : Nat} (W : st_wf K n) (hi : i < n) (h : ¬ (K i = 1 ∧ ∃ o r, st_s K i = o :: r ∧ K o = 0)) : i + 1 < n := sorry
/-- X's node for a target delivers where Y goes on -/
theorem un_xn_ok {K A C : Nat → Int32} {n j : Nat} (W : st_wf K n) (hj : j < n) : un_xn K n j < n ∧ un_xt K n (un_xn K n j) = st_ch K n j ∧ (∀ o, un_xo K A C (un_xn K n j) o = o) ∧ j ≤ un_xn K n j ∧ (∀ b, b ∈ st_s K (un_xn K n j) → b ∈ st_s K j) := sorry
