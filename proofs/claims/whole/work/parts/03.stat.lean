/-! the open blocks before a line, as a list: the innermost first -/
abbrev st_op (k : Int32) : Prop := k = 0 ∨ k = 2 ∨ k = 4 ∨ k = 6
abbrev st_sec (k : Int32) : Prop := k = 7 ∨ k = 8 ∨ k = 9 ∨ k = 29
def st_s (K : Nat → Int32) : Nat → List Nat
  | 0 => []
  | i + 1 => if K i = 1 then (st_s K i).tail else if st_op (K i) then i :: st_s K i else st_s K i
theorem st_op1 {k : Int32} (h : st_op k) : ¬ k = 1 := by
  rcases h with h | h | h | h <;> (subst h; decide)
theorem st_end {K : Nat → Int32} {i : Nat} (h : K i = 1) : st_s K (i + 1) = (st_s K i).tail := by
  show (if K i = 1 then _ else _) = _
  rw [if_pos h]
theorem st_opn {K : Nat → Int32} {i : Nat} (h : st_op (K i)) : st_s K (i + 1) = i :: st_s K i := by
  show (if K i = 1 then _ else _) = _
  rw [if_neg (st_op1 h), if_pos h]
theorem st_oth {K : Nat → Int32} {i : Nat} (h1 : ¬ K i = 1) (h : ¬ st_op (K i)) : st_s K (i + 1) = st_s K i := by
  show (if K i = 1 then _ else _) = _
  rw [if_neg h1, if_neg h]
theorem st_lt {K : Nat → Int32} : ∀ {i b : Nat}, b ∈ st_s K i → b < i ∧ st_op (K b) := by
  intro i
  induction i with
  | zero => intro b h; cases h
  | succ i ih =>
    intro b h
    by_cases h1 : K i = 1
    · rw [st_end h1] at h
      have := ih (List.mem_of_mem_tail h)
      exact ⟨by omega, this.2⟩
    · by_cases h2 : st_op (K i)
      · rw [st_opn h2] at h
        rcases List.mem_cons.mp h with e | h
        · subst e; exact ⟨by omega, h2⟩
        · have := ih h
          exact ⟨by omega, this.2⟩
      · rw [st_oth h1 h2] at h
        have := ih h
        exact ⟨by omega, this.2⟩
/-- below a block on the stack lie the blocks that were open before it -/
theorem st_sfx {K : Nat → Int32} : ∀ {i b : Nat} {l r : List Nat}, st_s K i = l ++ b :: r → st_s K b = r := by
  intro i
  induction i with
  | zero => intro b l r h; cases l <;> cases h
  | succ i ih =>
    intro b l r h
    by_cases h1 : K i = 1
    · rw [st_end h1] at h
      cases e : st_s K i with
      | nil => rw [e] at h; cases l <;> cases h
      | cons x t =>
        rw [e] at h
        have h' : t = l ++ b :: r := h
        exact ih (l := x :: l) (by rw [e, h']; rfl)
    · by_cases h2 : st_op (K i)
      · rw [st_opn h2] at h
        cases l with
        | nil => injection h with a c; subst a; exact c
        | cons x t => injection h with a c; exact ih c
      · rw [st_oth h1 h2] at h
        exact ih h
theorem st_hd {K : Nat → Int32} {i b : Nat} {r : List Nat} (h : st_s K i = b :: r) : st_s K b = r := st_sfx (l := []) h
/-- what was true of the stack at j, was so at every line behind the block's first -/
theorem st_back {K : Nat → Int32} {n : Nat} (F : ∀ i, i < n → K i = 1 → st_s K i ≠ []) : ∀ {j : Nat} {o : Nat} {l r : List Nat}, j ≤ n → st_s K j = l ++ o :: r → ∀ i, o < i → i ≤ j → ∃ l', st_s K i = l' ++ o :: r := by
  intro j
  induction j with
  | zero => intro o l r _ h; cases l <;> cases h
  | succ j ih =>
    intro o l r hj h i hi hij
    by_cases e : i = j + 1
    · subst e; exact ⟨l, h⟩
    · by_cases h1 : K j = 1
      · rw [st_end h1] at h
        cases e2 : st_s K j with
        | nil => exact absurd e2 (F j (by omega) h1)
        | cons x t =>
          rw [e2] at h
          have h' : t = l ++ o :: r := h
          exact ih (l := x :: l) (by omega) (by rw [e2, h']; rfl) i hi (by omega)
      · by_cases h2 : st_op (K j)
        · rw [st_opn h2] at h
          cases l with
          | nil => injection h with a c; omega
          | cons x t => injection h with a c; exact ih (by omega) c i hi (by omega)
        · rw [st_oth h1 h2] at h
          exact ih (by omega) h i hi (by omega)
theorem st_len {o : Nat} {l r : List Nat} (h : l ++ o :: r = o :: r) : l = [] := by
  have := congrArg List.length h
  rw [List.length_append] at this
  exact List.length_eq_zero_iff.mp (by omega)
theorem st_nlen {o : Nat} {l r : List Nat} (h : r = l ++ o :: r) : False := by
  have := congrArg List.length h
  rw [List.length_append, List.length_cons] at this
  omega
/-- a block that is open when the lines end not, has its END -/
theorem st_hasEnd {K : Nat → Int32} {n : Nat} (Z : st_s K n = []) : ∀ (d i o : Nat) (l r : List Nat), i + d = n → st_s K i = l ++ o :: r → ∃ e, i ≤ e ∧ e < n ∧ K e = 1 ∧ st_s K e = o :: r := by
  intro d
  induction d with
  | zero => intro i o l r hi h; rw [show i = n by omega, Z] at h; cases l <;> cases h
  | succ d ih =>
    intro i o l r hi h
    by_cases h1 : K i = 1
    · cases l with
      | nil => exact ⟨i, by omega, by omega, h1, h⟩
      | cons x t =>
        obtain ⟨e, a, b⟩ := ih (i + 1) o t r (by omega) (by rw [st_end h1, h]; rfl)
        exact ⟨e, by omega, b⟩
    · by_cases h2 : st_op (K i)
      · obtain ⟨e, a, b⟩ := ih (i + 1) o (i :: l) r (by omega) (by rw [st_opn h2, h]; rfl)
        exact ⟨e, by omega, b⟩
      · obtain ⟨e, a, b⟩ := ih (i + 1) o l r (by omega) (by rw [st_oth h1 h2, h])
        exact ⟨e, by omega, b⟩
theorem st_bnd (K : Nat → Int32) : ∀ i, (st_s K i).length ≤ i := by
  intro i
  induction i with
  | zero => exact Nat.le_refl 0
  | succ i ih =>
    by_cases h1 : K i = 1
    · rw [st_end h1, List.length_tail]; omega
    · by_cases h2 : st_op (K i)
      · rw [st_opn h2, List.length_cons]; omega
      · rw [st_oth h1 h2]; omega
/-- what the form of the lines gives: of each line up to n -/
def st_F (K : Nat → Int32) (n : Nat) : Prop := ∀ i, i < n → (K i = 0 ↔ st_s K i = [])
theorem st_F1 {K : Nat → Int32} {n : Nat} (F : st_F K n) : ∀ i, i < n → K i = 1 → st_s K i ≠ [] := by
  intro i hi h1 h
  rw [(F i hi).mpr h] at h1
  exact absurd h1 (by decide)
theorem st_uniq {K : Nat → Int32} {n : Nat} (F : st_F K n) {e e' o : Nat} {r r' : List Nat} (he : e < n) (h1 : K e = 1) (hs : st_s K e = o :: r) (he' : e' < n) (h1' : K e' = 1) (hs' : st_s K e' = o :: r') : e = e' := by
  have a := st_hd hs
  have a' := st_hd hs'
  have rr : r' = r := a'.symm.trans a
  subst rr
  have key : ∀ {x y : Nat}, x < n → y < n → K x = 1 → st_s K x = o :: r' → st_s K y = o :: r' → x < y → False := by
    intro x y hx hy k1 s1 s2 hxy
    obtain ⟨l, hl⟩ := st_back (st_F1 F) (j := y) (l := []) (by omega) s2 (x + 1) (by have := (st_lt (K := K) (i := x) (b := o) (by rw [s1]; exact List.mem_cons_self)).1; omega) (by omega)
    rw [st_end k1, s1] at hl
    exact st_nlen hl
  rcases Nat.lt_trichotomy e e' with h | h | h
  · exact (key he he' h1 hs hs' h).elim
  · exact h
  · exact (key he' he h1' hs' hs h).elim
/-- the END of a block -/
def st_e (K : Nat → Int32) (o : Nat) : Nat → Nat
  | 0 => 0
  | e + 1 => if K e = 1 ∧ (st_s K e).head? = some o then e else st_e K o e
theorem st_e_eq {K : Nat → Int32} {n : Nat} (F : st_F K n) {e o : Nat} {r : List Nat} (he : e < n) (h1 : K e = 1) (hs : st_s K e = o :: r) : st_e K o n = e := by
  have key : ∀ m, e < m → m ≤ n → st_e K o m = e := by
    intro m
    induction m with
    | zero => intro h; omega
    | succ m ih =>
      intro hm hn
      show (if _ then _ else _) = _
      by_cases c : K m = 1 ∧ (st_s K m).head? = some o
      · rw [if_pos c]
        cases hc : st_s K m with
        | nil => rw [hc] at c; exact absurd c.2 (by simp)
        | cons x t =>
          rw [hc] at c
          have : x = o := by have := c.2; simpa using this
          subst this
          exact (st_uniq F he h1 hs (by omega) c.1 hc).symm
      · rw [if_neg c]
        by_cases e2 : e = m
        · subst e2
          exact absurd ⟨h1, by rw [hs]; rfl⟩ c
        · exact ih (by omega) (by omega)
  exact key n he (Nat.le_refl n)
/-- what is known of the END of a block that line i lies in -/
theorem st_e_of {K : Nat → Int32} {n : Nat} (F : st_F K n) (Z : st_s K n = []) {i o : Nat} {l r : List Nat} (hi : i ≤ n) (hs : st_s K i = l ++ o :: r) : i ≤ st_e K o n ∧ st_e K o n < n ∧ K (st_e K o n) = 1 ∧ st_s K (st_e K o n) = o :: r := by
  obtain ⟨e, a, b, c, d⟩ := st_hasEnd Z (n - i) i o l r (by omega) hs
  rw [st_e_eq F b c d]
  exact ⟨a, b, c, d⟩
abbrev st_mk (k : Int32) : Prop := k = 1 ∨ k = 3 ∨ st_sec k
/-- where a goroutine that comes to line j goes on -/
def st_c (K : Nat → Int32) (n : Nat) : Nat → Nat → Nat
  | 0, j => j
  | f + 1, j => if st_mk (K j) then (match st_s K j with
    | [] => j
    | o :: _ => if K o = 0 then j else if K o = 4 then o else st_c K n f (st_e K o n + 1)) else j
def st_ch (K : Nat → Int32) (n j : Nat) : Nat := st_c K n n j
def st_wf (K : Nat → Int32) (n : Nat) : Prop :=
  n ≤ 60 ∧ st_s K n = [] ∧ st_F K n ∧ (∀ i, i < n → K i = 3 → ∃ o r, st_s K i = o :: r ∧ K o = 2) ∧
  (∀ i, i < n → st_sec (K i) → ∃ o r, st_s K i = o :: r ∧ K o = 6) ∧ (∀ i, i < n → K i = 5 → ∃ b, b ∈ st_s K i ∧ K b = 4)
theorem st_mkhd {K : Nat → Int32} {n j : Nat} (F : st_F K n) (hj : j < n) (h : st_mk (K j)) : ∃ o r, st_s K j = o :: r ∧ o < j ∧ st_op (K o) ∧ r = st_s K o := by
  cases e : st_s K j with
  | nil =>
    have := (F j hj).mpr e
    rw [this] at h
    exact absurd h (by decide)
  | cons o r =>
    have := st_lt (K := K) (i := j) (b := o) (by rw [e]; exact List.mem_cons_self)
    exact ⟨o, r, rfl, this.1, this.2, (st_hd e).symm⟩
/-- behind the END of an IF or a SELECT stands a line -/
theorem st_next {K : Nat → Int32} {n i o : Nat} {l r : List Nat} (F : st_F K n) (Z : st_s K n = []) (hi : i < n) (hs : st_s K i = l ++ o :: r) (h0 : ¬ K o = 0) : i < st_e K o n + 1 ∧ st_e K o n + 1 < n ∧ st_s K (st_e K o n + 1) = r := by
  obtain ⟨a, b, c, d⟩ := st_e_of F Z (Nat.le_of_lt hi) hs
  have e1 : st_s K (st_e K o n + 1) = r := by rw [st_end c, d]; rfl
  have ho : o < n := by
    have := (st_lt (K := K) (i := i) (b := o) (by rw [hs]; simp)).1
    omega
  refine ⟨by omega, ?_, e1⟩
  have hr : r = st_s K o := (st_sfx hs).symm
  by_cases z : st_e K o n + 1 = n
  · rw [z, Z] at e1
    exact absurd ((F o ho).mpr (hr.symm.trans e1.symm)) h0
  · omega
theorem st_c_fuel {K : Nat → Int32} {n : Nat} (F : st_F K n) (Z : st_s K n = []) : ∀ f f' j, j < n → n - j ≤ f → n - j ≤ f' → st_c K n f j = st_c K n f' j := by
  intro f
  induction f with
  | zero => intro f' j hj h; omega
  | succ f ih =>
    intro f' j hj h h'
    obtain ⟨f', rfl⟩ : ∃ q, f' = q + 1 := ⟨f' - 1, by omega⟩
    show (if _ then _ else _) = (if _ then _ else _)
    by_cases hm : st_mk (K j)
    · rw [if_pos hm, if_pos hm]
      obtain ⟨o, r, e, ho, hk, hr⟩ := st_mkhd F hj hm
      rw [e]
      show (if _ then _ else _) = (if _ then _ else _)
      by_cases h0 : K o = 0
      · rw [if_pos h0, if_pos h0]
      · rw [if_neg h0, if_neg h0]
        by_cases h4 : K o = 4
        · rw [if_pos h4, if_pos h4]
        · rw [if_neg h4, if_neg h4]
          obtain ⟨a, b, _⟩ := st_next F Z hj (l := []) e h0
          exact ih f' _ b (by omega) (by omega)
    · rw [if_neg hm, if_neg hm]
theorem st_ch_n {K : Nat → Int32} {n j : Nat} (hj : j < n) (h : ¬ st_mk (K j)) : st_ch K n j = j := by
  obtain ⟨m, rfl⟩ : ∃ q, n = q + 1 := ⟨n - 1, by omega⟩
  show (if _ then _ else _) = _
  rw [if_neg h]
theorem st_ch_0 {K : Nat → Int32} {n j o : Nat} {r : List Nat} (hj : j < n) (h : st_mk (K j)) (e : st_s K j = o :: r) (h0 : K o = 0) : st_ch K n j = j := by
  obtain ⟨m, rfl⟩ : ∃ q, n = q + 1 := ⟨n - 1, by omega⟩
  show (if _ then _ else _) = _
  rw [if_pos h, e]
  show (if _ then _ else _) = _
  rw [if_pos h0]
theorem st_ch_4 {K : Nat → Int32} {n j o : Nat} {r : List Nat} (hj : j < n) (h : st_mk (K j)) (e : st_s K j = o :: r) (h4 : K o = 4) : st_ch K n j = o := by
  obtain ⟨m, rfl⟩ : ∃ q, n = q + 1 := ⟨n - 1, by omega⟩
  show (if _ then _ else _) = _
  rw [if_pos h, e]
  show (if _ then _ else _) = _
  rw [if_neg (by rw [h4]; decide), if_pos h4]
theorem st_ch_s {K : Nat → Int32} {n j o : Nat} {r : List Nat} (F : st_F K n) (Z : st_s K n = []) (hj : j < n) (h : st_mk (K j)) (e : st_s K j = o :: r) (h0 : ¬ K o = 0) (h4 : ¬ K o = 4) : st_ch K n j = st_ch K n (st_e K o n + 1) := by
  obtain ⟨a, b, _⟩ := st_next F Z hj (l := []) e h0
  rw [show st_ch K n (st_e K o n + 1) = st_c K n (n - 1) (st_e K o n + 1) from st_c_fuel F Z n (n - 1) _ b (by omega) (by omega)]
  obtain ⟨m, rfl⟩ : ∃ q, n = q + 1 := ⟨n - 1, by omega⟩
  show (if _ then _ else _) = _
  rw [if_pos h, e]
  show (if _ then _ else _) = _
  rw [if_neg h0, if_neg h4]
  rfl
/-- a line at which a goroutine may stand -/
def st_rest (K : Nat → Int32) (i : Nat) : Prop := ¬ st_mk (K i) ∨ (K i = 1 ∧ ∃ o r, st_s K i = o :: r ∧ K o = 0)
theorem st_ch_ok {K : Nat → Int32} {n : Nat} (W : st_wf K n) : ∀ d j, j < n → n - j ≤ d → st_ch K n j < n ∧ st_rest K (st_ch K n j) := by
  obtain ⟨n60, Z, F, W3, W4, W5⟩ := W
  intro d
  induction d with
  | zero => intro j hj h; omega
  | succ d ih =>
    intro j hj h
    by_cases hm : st_mk (K j)
    · obtain ⟨o, r, e, ho, hk, hr⟩ := st_mkhd F hj hm
      by_cases h0 : K o = 0
      · rw [st_ch_0 hj hm e h0]
        refine ⟨hj, Or.inr ⟨?_, o, r, e, h0⟩⟩
        rcases hm with h1 | h3 | hs
        · exact h1
        · obtain ⟨o', r', e', k'⟩ := W3 j hj h3
          rw [e] at e'
          injection e' with a b
          rw [← a, h0] at k'
          exact absurd k' (by decide)
        · obtain ⟨o', r', e', k'⟩ := W4 j hj hs
          rw [e] at e'
          injection e' with a b
          rw [← a, h0] at k'
          exact absurd k' (by decide)
      · by_cases h4 : K o = 4
        · rw [st_ch_4 hj hm e h4]
          exact ⟨by omega, Or.inl (by rw [h4]; decide)⟩
        · rw [st_ch_s F Z hj hm e h0 h4]
          obtain ⟨a, b, _⟩ := st_next F Z hj (l := []) e h0
          exact ih _ b (by omega)
    · rw [st_ch_n hj hm]
      exact ⟨hj, Or.inl hm⟩
