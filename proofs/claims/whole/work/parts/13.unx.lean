/-! UNSET: X -/
theorem nx_and (a b : Nat) : nI a &&& nI b = nI (a &&& b) := sorry
theorem nx_or (a b : Nat) : nI a ||| nI b = nI (a ||| b) := sorry
/-- the FUNC line of function f -/
def st_fl (K : Nat → Int32) (f : Nat) : Nat → Nat
  | 0 => 0
  | j + 1 => if K j = 0 ∧ st_f K j = f then j else st_fl K f j
theorem st_fl_eq {K : Nat → Int32} {f j : Nat} (k0 : K j = 0) (hf : st_f K j = f) : ∀ n, j < n → st_fl K f n = j := sorry
theorem st_fl_ex {K : Nat → Int32} {f : Nat} : ∀ n, f < st_f K n → ∃ j, j < n ∧ K j = 0 ∧ st_f K j = f := sorry
def un_pf (K A : Nat → Int32) (n f : Nat) : Nat := (A (st_fl K f n)).toNatClampNeg
/-- what the sections of SELECT o read, up to line j -/
def un_sel (K A B : Nat → Int32) (o : Nat) : Nat → Nat
  | 0 => 0
  | j + 1 => un_sel K A B o j ||| (if (st_s K j).head? = some o then (if K j = 7 then un_b (A j) ||| un_b (B j) else if K j = 8 then un_b (B j) else if K j = 29 then un_b (A j) else 0) else 0)
/-- what line i reads -/
def un_r (K A B C : Nat → Int32) (n i : Nat) : Nat :=
  if K i = 2 ∨ K i = 4 ∨ K i = 12 ∨ K i = 18 ∨ K i = 20 ∨ K i = 28 then un_b (A i) else
  if K i = 10 then un_b (A i) ||| un_b (B i) else
  if K i = 11 ∨ K i = 21 then un_b (B i) else
  if ln_go (K i) then (if un_pf K A n (A i).toNatClampNeg = 0 then 0 else if un_pf K A n (A i).toNatClampNeg = 1 then un_b (B i) else un_b (B i) ||| un_b (C i)) else
  if K i = 6 then un_sel K A B i (st_e K i n) else
  if K i = 22 ∨ K i = 23 ∨ K i = 24 ∨ K i = 25 ∨ K i = 26 ∨ K i = 27 then un_b (B i) ||| un_b (C i) else 0
theorem un_sel_lt {K A B : Nat → Int32} {o : Nat} : ∀ j, un_sel K A B o j < 64 := sorry
theorem un_r_lt {K A B C : Nat → Int32} {n i : Nat} : un_r K A B C n i < 64 := sorry
theorem un_sel_0 {K A B : Nat → Int32} {o : Nat} : ∀ j, j ≤ o + 1 → un_sel K A B o j = 0 := sorry
/-- what X knows of the lines once their form is checked -/
def sx_st (u : SX) (n : Nat) : Prop :=
  xa_lineCount u = nI n ∧ st_wf (xa_kinds u) n ∧ 0 < n ∧ (∀ j, j < n → fm_ok (xa_kinds u) j) ∧
  fm_A (xa_kinds u) n (xa_functionCount u) (xa_blockOf u) (xa_endOf u) (xa_elseOf u) (xa_functionLine u) ∧
  (∀ i, i < n → ln_ok (xa_kinds u i) (xa_argA u i) (xa_argB u i) (xa_argC u i)) ∧ (∀ i, i < n → ln_go (xa_kinds u i) → xa_argA u i < xa_functionCount u)
theorem sx_end {u : SX} {n o : Nat} (h : sx_st u n) (ho : o < n) (hk : st_op (xa_kinds u o)) : xa_endOf u o = nI (st_e (xa_kinds u) o n) ∧ o < st_e (xa_kinds u) o n ∧ st_e (xa_kinds u) o n < n := sorry
theorem xb_bit {post : Int32 → Prop} {u : SX} {x : Int32} (h : post (nI (un_b x))) : wpX_variableBit post u x := sorry
theorem xb_comp {post : Int32 → Prop} {u : SX} {k : Int32} (h1 : ¬ k < 21 → ¬ 27 < k → post 1) (h0 : (k < 21 ∨ 27 < k) → post 0) : wpX_computes post u k := sorry
theorem comp_rng {k : Int32} : (k = 21 ∨ k = 22 ∨ k = 23 ∨ k = 24 ∨ k = 25 ∨ k = 26 ∨ k = 27) ↔ ¬ k < 21 ∧ ¬ 27 < k := sorry
theorem xr_sel {post : Int32 → Prop} {u : SX} {n o : Nat} (S : sx_st u n) (ho : o < n) (k6 : xa_kinds u o = 6) (h : post (nI (un_sel (xa_kinds u) (xa_argA u) (xa_argB u) o (st_e (xa_kinds u) o n)))) :
    ∀ d j, j + d = st_e (xa_kinds u) o n → o < j → ∀ m, d < m → cx_readBySections_6 post (nI o) u m (nI (un_sel (xa_kinds u) (xa_argA u) (xa_argB u) o j)) (nI j) := sorry
