/-! the open blocks before a line, as a list: the innermost first -/
abbrev st_op (k : Int32) : Prop := k = 0 ∨ k = 2 ∨ k = 4 ∨ k = 6
abbrev st_sec (k : Int32) : Prop := k = 7 ∨ k = 8 ∨ k = 9 ∨ k = 29
def st_s (K : Nat → Int32) : Nat → List Nat
  | 0 => []
  | i + 1 => if K i = 1 then (st_s K i).tail else if st_op (K i) then i :: st_s K i else st_s K i
theorem st_op1 {k : Int32} (h : st_op k) : ¬ k = 1 := sorry
theorem st_end {K : Nat → Int32} {i : Nat} (h : K i = 1) : st_s K (i + 1) = (st_s K i).tail := sorry
theorem st_opn {K : Nat → Int32} {i : Nat} (h : st_op (K i)) : st_s K (i + 1) = i :: st_s K i := sorry
theorem st_oth {K : Nat → Int32} {i : Nat} (h1 : ¬ K i = 1) (h : ¬ st_op (K i)) : st_s K (i + 1) = st_s K i := sorry
theorem st_lt {K : Nat → Int32} : ∀ {i b : Nat}, b ∈ st_s K i → b < i ∧ st_op (K b) := sorry
/-- below a block on the stack lie the blocks that were open before it -/
theorem st_sfx {K : Nat → Int32} : ∀ {i b : Nat} {l r : List Nat}, st_s K i = l ++ b :: r → st_s K b = r := sorry
theorem st_hd {K : Nat → Int32} {i b : Nat} {r : List Nat} (h : st_s K i = b :: r) : st_s K b = r := sorry
/-- what was true of the stack at j, was so at every line behind the block's first -/
theorem st_back {K : Nat → Int32} {n : Nat} (F : ∀ i, i < n → K i = 1 → st_s K i ≠ []) : ∀ {j : Nat} {o : Nat} {l r : List Nat}, j ≤ n → st_s K j = l ++ o :: r → ∀ i, o < i → i ≤ j → ∃ l', st_s K i = l' ++ o :: r := sorry
theorem st_len {o : Nat} {l r : List Nat} (h : l ++ o :: r = o :: r) : l = [] := sorry
theorem st_nlen {o : Nat} {l r : List Nat} (h : r = l ++ o :: r) : False := sorry
/-- a block that is open when the lines end not, has its END -/
theorem st_hasEnd {K : Nat → Int32} {n : Nat} (Z : st_s K n = []) : ∀ (d i o : Nat) (l r : List Nat), i + d = n → st_s K i = l ++ o :: r → ∃ e, i ≤ e ∧ e < n ∧ K e = 1 ∧ st_s K e = o :: r := sorry
theorem st_bnd (K : Nat → Int32) : ∀ i, (st_s K i).length ≤ i := sorry
/-- what the form of the lines gives: of each line up to n -/
def st_F (K : Nat → Int32) (n : Nat) : Prop := ∀ i, i < n → (K i = 0 ↔ st_s K i = [])
theorem st_F1 {K : Nat → Int32} {n : Nat} (F : st_F K n) : ∀ i, i < n → K i = 1 → st_s K i ≠ [] := sorry
theorem st_uniq {K : Nat → Int32} {n : Nat} (F : st_F K n) {e e' o : Nat} {r r' : List Nat} (he : e < n) (h1 : K e = 1) (hs : st_s K e = o :: r) (he' : e' < n) (h1' : K e' = 1) (hs' : st_s K e' = o :: r') : e = e' := sorry
/-- the END of a block -/
def st_e (K : Nat → Int32) (o : Nat) : Nat → Nat
  | 0 => 0
  | e + 1 => if K e = 1 ∧ (st_s K e).head? = some o then e else st_e K o e
theorem st_e_eq {K : Nat → Int32} {n : Nat} (F : st_F K n) {e o : Nat} {r : List Nat} (he : e < n) (h1 : K e = 1) (hs : st_s K e = o :: r) : st_e K o n = e := sorry
/-- what is known of the END of a block that line i lies in -/
theorem st_e_of {K : Nat → Int32} {n : Nat} (F : st_F K n) (Z : st_s K n = []) {i o : Nat} {l r : List Nat} (hi : i ≤ n) (hs : st_s K i = l ++ o :: r) : i ≤ st_e K o n ∧ st_e K o n < n ∧ K (st_e K o n) = 1 ∧ st_s K (st_e K o n) = o :: r := sorry
abbrev st_mk (k : Int32) : Prop := k = 1 ∨ k = 3 ∨ st_sec k
/-- where a goroutine that comes to line j goes on -/
def st_c (K : Nat → Int32) (n : Nat) : Nat → Nat → Nat
  | 0, j => j
  | f + 1, j => if st_mk (K j) then (match st_s K j with
    | [] => j
    | o :: _ => if K o = 0 then j else if K o = 4 then o else st_c K n f (st_e K o n + 1)) else j
def st_ch (K : Nat → Int32) (n j : Nat) : Nat := st_c K n n j
def st_wf (K : Nat → Int32) (n : Nat) : Prop :=
  n ≤ 60 ∧ st_s K n = [] ∧ st_F K n ∧ (∀ i, i < n → K i = 3 → ∃ o r, st_s K i = o :: r ∧ K o = 2) ∧
  (∀ i, i < n → st_sec (K i) → ∃ o r, st_s K i = o :: r ∧ K o = 6) ∧ (∀ i, i < n → K i = 5 → ∃ b, b ∈ st_s K i ∧ K b = 4)
theorem st_mkhd {K : Nat → Int32} {n j : Nat} (F : st_F K n) (hj : j < n) (h : st_mk (K j)) : ∃ o r, st_s K j = o :: r ∧ o < j ∧ st_op (K o) ∧ r = st_s K o := sorry
/-- behind the END of an IF or a SELECT stands a line -/
theorem st_next {K : Nat → Int32} {n i o : Nat} {l r : List Nat} (F : st_F K n) (Z : st_s K n = []) (hi : i < n) (hs : st_s K i = l ++ o :: r) (h0 : ¬ K o = 0) : i < st_e K o n + 1 ∧ st_e K o n + 1 < n ∧ st_s K (st_e K o n + 1) = r := sorry
theorem st_c_fuel {K : Nat → Int32} {n : Nat} (F : st_F K n) (Z : st_s K n = []) : ∀ f f' j, j < n → n - j ≤ f → n - j ≤ f' → st_c K n f j = st_c K n f' j := sorry
theorem st_ch_n {K : Nat → Int32} {n j : Nat} (hj : j < n) (h : ¬ st_mk (K j)) : st_ch K n j = j := sorry
theorem st_ch_0 {K : Nat → Int32} {n j o : Nat} {r : List Nat} (hj : j < n) (h : st_mk (K j)) (e : st_s K j = o :: r) (h0 : K o = 0) : st_ch K n j = j := sorry
theorem st_ch_4 {K : Nat → Int32} {n j o : Nat} {r : List Nat} (hj : j < n) (h : st_mk (K j)) (e : st_s K j = o :: r) (h4 : K o = 4) : st_ch K n j = o := sorry
theorem st_ch_s {K : Nat → Int32} {n j o : Nat} {r : List Nat} (F : st_F K n) (Z : st_s K n = []) (hj : j < n) (h : st_mk (K j)) (e : st_s K j = o :: r) (h0 : ¬ K o = 0) (h4 : ¬ K o = 4) : st_ch K n j = st_ch K n (st_e K o n + 1) := sorry
/-- a line at which a goroutine may stand -/
def st_rest (K : Nat → Int32) (i : Nat) : Prop := ¬ st_mk (K i) ∨ (K i = 1 ∧ ∃ o r, st_s K i = o :: r ∧ K o = 0)
theorem st_ch_ok {K : Nat → Int32} {n : Nat} (W : st_wf K n) : ∀ d j, j < n → n - j ≤ d → st_ch K n j < n ∧ st_rest K (st_ch K n j) := sorry
