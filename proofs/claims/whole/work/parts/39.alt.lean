/-! the DEFAULT or AFTER of a SELECT -/
theorem n_ge {K : Nat → Int32} {P : Int32 → Bool} {o j : Nat} (h1 : (st_s K j).head? = some o) (h2 : P (K j) = true) : ∀ i, j < i → 0 < st_n K P o i := sorry
/-- a section of SELECT w -/
def al_is (K : Nat → Int32) (n w j : Nat) : Prop := j < n ∧ (st_s K j).head? = some w ∧ st_pa (K j) = true
theorem al_lt {K : Nat → Int32} {n w j j' : Nat} (ok : ∀ j, j < n → fm_ok K j) (h : al_is K n w j) (h' : al_is K n w j') : ¬ j < j' := sorry
theorem al_u {K : Nat → Int32} {n w j j' : Nat} (ok : ∀ j, j < n → fm_ok K j) (h : al_is K n w j) (h' : al_is K n w j') : j = j' := sorry
theorem al_in {K : Nat → Int32} {n w j : Nat} (W : st_wf K n) (hj : j < n) (h : (st_s K j).head? = some w) (n1 : ¬ K j = 1) : w < j ∧ j < st_e K w n := sorry
theorem al_n1 {k : Int32} (h : st_pa k = true) : ¬ k = 1 := sorry
theorem xa_alt {post : Int32 → Prop} {u : SX} {n w : Nat} (T : sx_st u n) (hw : w < n) (k6 : xa_kinds u w = 6) (hS : ∀ j, al_is (xa_kinds u) n w j → post (nI j)) (hN : (∀ j, ¬ al_is (xa_kinds u) n w j) → post (-1)) : wpX_alternativeOf post u (nI w) := sorry
theorem al_P {K : Nat → Int32} {w j : Nat} (h : (st_s K j).head? = some w) (s : st_sec (K j)) : st_P K w j := sorry
theorem yl_aft {post : SY → Prop} {v : SY} {n w j : Nat} {g : Int32} (T : sy_st v n) (hw : w < n) (k6 : ya_kind v w = 6) (hj : j < n) (hh : (st_s (ya_kind v) j).head? = some w) (k29 : ya_kind v j = 29) (h : cy_late_52 post g (nI j) v) :
    ∀ d i, (i = w ∨ (st_P (ya_kind v) w i ∧ i < n)) → i < j → j - i ≤ d → ∀ (Q : Int32 → Prop), (∀ r, cy_late_31 post g (nI w) v d r → Q r) → wpY_part Q v (nI w) (nI i) := sorry
