/-! X: the loop of the form -/
def fm_w (u : SX) (fc : Int32) (bo eo el fl : Nat → Int32) : SX := xs_functionLine (xs_elseOf (xs_endOf (xs_blockOf (xs_functionCount u fc) bo) eo) el) fl
theorem fm_n1 {u : SX} {fc : Int32} {bo eo el fl b e : Nat → Int32} : xs_elseOf (xs_blockOf (fm_w u fc bo eo el fl) b) e = fm_w u fc b eo e fl := sorry
theorem fm_n2 {u : SX} {fc c : Int32} {bo eo el fl b e f : Nat → Int32} : xs_functionLine (xs_elseOf (xs_blockOf (xs_functionCount (fm_w u fc bo eo el fl) c) b) e) f = fm_w u c b eo e f := sorry
theorem fm_n3 {u : SX} {fc : Int32} {bo eo el fl e : Nat → Int32} : xs_elseOf (fm_w u fc bo eo el fl) e = fm_w u fc bo eo e fl := sorry
theorem fm_n4 {u : SX} {fc : Int32} {bo eo el fl e : Nat → Int32} : xs_endOf (fm_w u fc bo eo el fl) e = fm_w u fc bo e el fl := sorry
theorem fm_n0 {u : SX} {c : Int32} : xs_functionCount u c = fm_w u c (xa_blockOf u) (xa_endOf u) (xa_elseOf u) (xa_functionLine u) := sorry
def fm_A (K : Nat → Int32) (i : Nat) (fc : Int32) (bo eo el fl : Nat → Int32) : Prop :=
  (∀ j, j < i → bo j = st_h (st_s K j)) ∧
  (∀ e, e < i → K e = 1 → ∀ o r, st_s K e = o :: r → eo o = nI e) ∧
  (∀ o, o < i → (el o = -1 ∧ ¬ st_el K o i) ∨ ∃ j, j < i ∧ K j = 3 ∧ (st_s K j).head? = some o ∧ el o = nI j) ∧
  (∀ j, j < i → K j = 0 → fl (st_f K j) = nI j) ∧
  fc = nI (st_f K i) ∧ 2 * st_f K i ≤ i + (if st_s K i = [] then 0 else 1)
theorem fm_F {K : Nat → Int32} {i : Nat} (h : fm_ok K i) : K i = 0 ↔ st_s K i = [] := sorry
theorem st_f_lt {K : Nat → Int32} {j : Nat} (h : K j = 0) : ∀ i, j < i → st_f K j < st_f K i := sorry
theorem st_f_le {K : Nat → Int32} {j : Nat} : ∀ i, j ≤ i → st_f K j ≤ st_f K i := sorry
theorem fm_a1 {K bo : Nat → Int32} {i : Nat} (h : ∀ j, j < i → bo j = st_h (st_s K j)) : ∀ j, j < i + 1 → upd bo i (st_h (st_s K i)) j = st_h (st_s K j) := sorry
theorem fm_a2 {K eo : Nat → Int32} {i : Nat} (h : ∀ e, e < i → K e = 1 → ∀ o r, st_s K e = o :: r → eo o = nI e) (h1 : ¬ K i = 1) : ∀ e, e < i + 1 → K e = 1 → ∀ o r, st_s K e = o :: r → eo o = nI e := sorry
theorem fm_a2' {K eo : Nat → Int32} {i o : Nat} {r : List Nat} (F : st_F K (i + 1)) (h : ∀ e, e < i → K e = 1 → ∀ o r, st_s K e = o :: r → eo o = nI e) (h1 : K i = 1) (hs : st_s K i = o :: r) : ∀ e, e < i + 1 → K e = 1 → ∀ o' r', st_s K e = o' :: r' → upd eo o (nI i) o' = nI e := sorry
theorem st_el_s {K : Nat → Int32} {o i : Nat} (h : ¬ st_el K o i) (h3 : ¬ (K i = 3 ∧ (st_s K i).head? = some o)) : ¬ st_el K o (i + 1) := sorry
theorem st_el_0 {K : Nat → Int32} {i : Nat} : ¬ st_el K i (i + 1) := sorry
theorem fm_a3 {K el : Nat → Int32} {i : Nat} (h : ∀ o, o < i → (el o = -1 ∧ ¬ st_el K o i) ∨ ∃ j, j < i ∧ K j = 3 ∧ (st_s K j).head? = some o ∧ el o = nI j) (h3 : ¬ K i = 3) :
    ∀ o, o < i + 1 → (upd el i (-1) o = -1 ∧ ¬ st_el K o (i + 1)) ∨ ∃ j, j < i + 1 ∧ K j = 3 ∧ (st_s K j).head? = some o ∧ upd el i (-1) o = nI j := sorry
theorem fm_a3' {K el : Nat → Int32} {i q : Nat} {r : List Nat} (h : ∀ o, o < i → (el o = -1 ∧ ¬ st_el K o i) ∨ ∃ j, j < i ∧ K j = 3 ∧ (st_s K j).head? = some o ∧ el o = nI j) (h3 : K i = 3) (hs : st_s K i = q :: r) :
    ∀ o, o < i + 1 → (upd (upd el i (-1)) q (nI i) o = -1 ∧ ¬ st_el K o (i + 1)) ∨ ∃ j, j < i + 1 ∧ K j = 3 ∧ (st_s K j).head? = some o ∧ upd (upd el i (-1)) q (nI i) o = nI j := sorry
theorem fm_a4 {K fl : Nat → Int32} {i : Nat} (h : ∀ j, j < i → K j = 0 → fl (st_f K j) = nI j) (h0 : ¬ K i = 0) : ∀ j, j < i + 1 → K j = 0 → fl (st_f K j) = nI j := sorry
theorem fm_a4' {K fl : Nat → Int32} {i : Nat} (h : ∀ j, j < i → K j = 0 → fl (st_f K j) = nI j) : ∀ j, j < i + 1 → K j = 0 → upd fl (st_f K i) (nI i) (st_f K j) = nI j := sorry
theorem fm_f0 {K : Nat → Int32} {i : Nat} (h0 : ¬ K i = 0) : st_f K (i + 1) = st_f K i := sorry
theorem fm_f1 {K : Nat → Int32} {i : Nat} (h0 : K i = 0) : st_f K (i + 1) = st_f K i + 1 := sorry
theorem fm_a6 {K : Nat → Int32} {i : Nat} (h0 : ¬ K i = 0) (F : K i = 0 ↔ st_s K i = []) (h : 2 * st_f K i ≤ i + (if st_s K i = [] then 0 else 1)) : 2 * st_f K (i + 1) ≤ i + 1 + (if st_s K (i + 1) = [] then 0 else 1) := sorry
theorem xj_104 {post : Int32 → SX → Prop} {J : Int32 → Int32 → SX → Prop} {u : SX} {x1 k : Int32} {i : Nat} (h1 : st_op k → J (nI i) (nI (i + 1)) u) (h0 : ¬ st_op k → J x1 (nI (i + 1)) u) : cx_formFault_104 post J x1 (nI i) k u := sorry
theorem xf_loop {post : Int32 → SX → Prop} {u : SX} {n : Nat} (hn : xa_lineCount u = nI n) (n60 : n ≤ 60)
    (hp : ∀ r fc bo eo el fl, fm_res (xa_kinds u) n r → (r = -1 → fm_A (xa_kinds u) n fc bo eo el fl) → post r (fm_w u fc bo eo el fl)) :
    ∀ d i fc bo eo el fl, i + d = n → (∀ j, j < i → fm_ok (xa_kinds u) j) → fm_A (xa_kinds u) i fc bo eo el fl → ∀ m, d < m → cx_formFault_9 post m (st_h (st_s (xa_kinds u) i)) (nI i) (fm_w u fc bo eo el fl) := sorry
theorem xf_form {post : Int32 → SX → Prop} {u : SX} {n : Nat} (hn : xa_lineCount u = nI n) (n60 : n ≤ 60)
    (hp : ∀ r fc bo eo el fl, fm_res (xa_kinds u) n r → (r = -1 → fm_A (xa_kinds u) n fc bo eo el fl) → post r (fm_w u fc bo eo el fl)) : wpX_formFault post u := sorry
