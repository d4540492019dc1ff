/-! UNSET: Y -/
def sy_st (v : SY) (n : Nat) : Prop :=
  ya_lines v = nI n ∧ st_wf (ya_kind v) n ∧ 0 < n ∧ (∀ j, j < n → fm_ok (ya_kind v) j) ∧
  (∀ i, i < n → ln_ok (ya_kind v i) (ya_opA v i) (ya_opB v i) (ya_opC v i)) ∧ (∀ i, i < n → ln_go (ya_kind v i) → ya_opA v i < nI (st_f (ya_kind v) n)) ∧ st_f (ya_kind v) n ≤ 30
theorem us_us {v : SY} {s s' : Nat → Int32} : ys_unset (ys_unset v s) s' = ys_unset v s' := sorry
theorem le5 {x : Int32} : 5 < x ↔ (6 : Int32) ≤ x := sorry
theorem yb_bit {post : Int32 → Prop} {v : SY} {x : Int32} (h : post (nI (un_b x))) : wpY_bit post v x := sorry
/-- Y: a function's line -/
theorem sy_fun {post : Int32 → Prop} {v : SY} {n f : Nat} (T : sy_st v n) (hf : f < st_f (ya_kind v) n) (h : ∀ j, j < n → ya_kind v j = 0 → st_f (ya_kind v) j = f → st_fl (ya_kind v) f n = j → post (nI j)) : wpY_function post v (nI f) := sorry
theorem sy_par {post : Int32 → Prop} {v : SY} {n f : Nat} (T : sy_st v n) (hf : f < st_f (ya_kind v) n) (h : un_pf (ya_kind v) (ya_opA v) n f < 3 → post (nI (un_pf (ya_kind v) (ya_opA v) n f))) : wpY_params post v (nI f) := sorry
/-- the next part of block o behind line i -/
theorem sy_part {post : Int32 → Prop} {v : SY} {n o i : Nat} (T : sy_st v n) (ho : o < n) (hop : st_op (ya_kind v o)) (hi : i = o ∨ (st_P (ya_kind v) o i ∧ i < n))
    (hS : ∀ j', i < j' → j' < st_e (ya_kind v) o n → st_P (ya_kind v) o j' → (∀ k, i < k → k < j' → ¬ st_P (ya_kind v) o k) → post (nI j'))
    (hN : (∀ k, i < k → k < st_e (ya_kind v) o n → ¬ st_P (ya_kind v) o k) → post (-1)) : wpY_part post v (nI o) (nI i) := sorry
theorem un_sel_skip {K A B : Nat → Int32} {o a : Nat} : ∀ b, a ≤ b → (∀ k, a ≤ k → k < b → ¬ st_P K o k) → un_sel K A B o b = un_sel K A B o a := sorry
theorem yr_sel {post : Int32 → Prop} {v : SY} {n o : Nat} (T : sy_st v n) (ho : o < n) (k6 : ya_kind v o = 6) (h : post (nI (un_sel (ya_kind v) (ya_opA v) (ya_opB v) o (st_e (ya_kind v) o n)))) :
    ∀ d j, j + d = st_e (ya_kind v) o n → st_P (ya_kind v) o j → j < st_e (ya_kind v) o n → ∀ m, d + 1 < m → cy_reads_227 post (nI o) v m (nI (un_sel (ya_kind v) (ya_opA v) (ya_opB v) o j)) (nI j) := sorry
theorem yr_reads {post : Int32 → Prop} {v : SY} {n i : Nat} (S : sy_st v n) (hi : i < n) (h : post (nI (un_r (ya_kind v) (ya_opA v) (ya_opB v) (ya_opC v) n i))) : wpY_reads post v (nI i) := sorry
