/-! lines, functions, CALLEE -/
abbrev ln_set (k : Int32) : Prop := k = 8 ∨ k = 11 ∨ k = 13 ∨ k = 19 ∨ k = 21 ∨ k = 22 ∨ k = 23 ∨ k = 24 ∨ k = 25 ∨ k = 26 ∨ k = 27
abbrev ln_go (k : Int32) : Prop := k = 14 ∨ k = 15 ∨ k = 16
/-- what a line that was taken is like -/
def ln_ok (k a b c : Int32) : Prop := (∃ q, q < 30 ∧ k = nI q) ∧ (k = 0 → ∃ p, p < 3 ∧ a = nI p) ∧ (ln_set k → ∃ p, p < 6 ∧ a = nI p) ∧ (k = 8 ∨ k = 11 → ∃ p, p < 6 ∧ c = nI p) ∧ (k = 13 → ∃ p, p < 4 ∧ b = nI p) ∧ (ln_go k → ∃ p, p < 30 ∧ a = nI p)
theorem yfn_loop {post : Int32 → Prop} {v : SY} {n f : Nat} (hn : ya_lines v = nI n) (n60 : n ≤ 60) (hS : ∀ j, j < n → ya_kind v j = 0 → st_f (ya_kind v) j = f → post (nI j)) (hN : st_f (ya_kind v) n ≤ f → post (-1)) :
    ∀ d i q, i + d = n → q < 100 → q + st_f (ya_kind v) i = f → ∀ m, d < m → cy_function_4 post v m (nI q) (nI i) := sorry
theorem yfn {post : Int32 → Prop} {v : SY} {n f : Nat} (hn : ya_lines v = nI n) (n60 : n ≤ 60) (hf : f < 100) (hS : ∀ j, j < n → ya_kind v j = 0 → st_f (ya_kind v) j = f → post (nI j)) (hN : st_f (ya_kind v) n ≤ f → post (-1)) : wpY_function post v (nI f) := sorry
def ce_res (K A : Nat → Int32) (F n : Nat) (r : Int32) : Prop :=
  (∃ i, i < n ∧ (∀ j, j < i → ln_go (K j) → A j < nI F) ∧ ln_go (K i) ∧ ¬ A i < nI F ∧ r = nI i) ∨ ((∀ j, j < n → ln_go (K j) → A j < nI F) ∧ r = -1)
theorem ce_uniq {K A : Nat → Int32} {F n : Nat} {r r' : Int32} (h : ce_res K A F n r) (h' : ce_res K A F n r') : r' = r := sorry
theorem xc_loop {post : Int32 → Prop} {u : SX} {n F : Nat} (hn : xa_lineCount u = nI n) (n60 : n ≤ 60) (hF : xa_functionCount u = nI F) (hp : ∀ r, ce_res (xa_kinds u) (xa_argA u) F n r → post r) :
    ∀ d i, i + d = n → (∀ j, j < i → ln_go (xa_kinds u j) → xa_argA u j < nI F) → ∀ m, d < m → cx_calleeFault_2 post u m (nI i) := sorry
theorem xc_callee {post : Int32 → Prop} {u : SX} {n F : Nat} (hn : xa_lineCount u = nI n) (n60 : n ≤ 60) (hF : xa_functionCount u = nI F) (hp : ∀ r, ce_res (xa_kinds u) (xa_argA u) F n r → post r) : wpX_calleeFault post u := sorry
theorem go_rng {k : Int32} : ln_go k ↔ ¬ k < 14 ∧ ¬ 16 < k := sorry
theorem yc_loop {post : Int32 → Prop} {v : SY} {n F : Nat} (hn : ya_lines v = nI n) (n60 : n ≤ 60) (hF : st_f (ya_kind v) n = F) (F30 : F ≤ 60) (hl : ∀ i, i < n → ln_go (ya_kind v i) → ∃ p, p < 30 ∧ ya_opA v i = nI p) (hp : ∀ r, ce_res (ya_kind v) (ya_opA v) F n r → post r) :
    ∀ d i, i + d = n → (∀ j, j < i → ln_go (ya_kind v j) → ya_opA v j < nI F) → ∀ m, d < m → cy_callee_2 post v m (nI i) := sorry
theorem yc_callee {post : Int32 → Prop} {v : SY} {n F : Nat} (hn : ya_lines v = nI n) (n60 : n ≤ 60) (hF : st_f (ya_kind v) n = F) (F30 : F ≤ 60) (hl : ∀ i, i < n → ln_go (ya_kind v i) → ∃ p, p < 30 ∧ ya_opA v i = nI p) (hp : ∀ r, ce_res (ya_kind v) (ya_opA v) F n r → post r) : wpY_callee post v := sorry
