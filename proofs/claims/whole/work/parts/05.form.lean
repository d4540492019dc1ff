/-! the form of the lines -/
def st_h : List Nat → Int32
  | [] => -1
  | b :: _ => nI b
def st_n (K : Nat → Int32) (P : Int32 → Bool) (o : Nat) : Nat → Nat
  | 0 => 0
  | i + 1 => st_n K P o i + (if (st_s K i).head? = some o ∧ P (K i) = true then 1 else 0)
def st_pc (k : Int32) : Bool := k == 7 || k == 8
def st_pa (k : Int32) : Bool := k == 9 || k == 29
theorem st_pc_iff {k : Int32} : st_pc k = true ↔ k = 7 ∨ k = 8 := sorry
theorem st_pa_iff {k : Int32} : st_pa k = true ↔ k = 9 ∨ k = 29 := sorry
/-- block o has an ELSE before line i -/
def st_el (K : Nat → Int32) (o i : Nat) : Prop := ∃ j, j < i ∧ K j = 3 ∧ (st_s K j).head? = some o
def fm_ok (K : Nat → Int32) (i : Nat) : Prop := match st_s K i with
  | [] => K i = 0
  | o :: _ => ¬ K i = 0 ∧ (K i = 1 ∨ (st_sec (K i) ∧ K o = 6 ∧ (st_pc (K i) = true → st_n K st_pc o i < 3) ∧ (st_pc (K i) = false → st_n K st_pa o i < 1)) ∨
    (¬ K i = 1 ∧ ¬ st_sec (K i) ∧ ¬ (K o = 6 ∧ o + 1 = i) ∧ (K i = 3 → K o = 2 ∧ ¬ st_el K o i) ∧ (K i = 5 → ∃ b, b ∈ st_s K i ∧ K b = 4)))
def fm_res (K : Nat → Int32) (n : Nat) (r : Int32) : Prop :=
  (∃ i, i < n ∧ (∀ j, j < i → fm_ok K j) ∧ ¬ fm_ok K i ∧ r = nI i) ∨
  ((∀ j, j < n → fm_ok K j) ∧ ((st_s K n = [] ∧ 0 < n ∧ r = -1) ∨ (¬ (st_s K n = [] ∧ 0 < n) ∧ r = nI n)))
theorem fm_uniq {K : Nat → Int32} {n : Nat} {r r' : Int32} (h : fm_res K n r) (h' : fm_res K n r') : r' = r := sorry
theorem fm_nil {K : Nat → Int32} {i : Nat} (e : st_s K i = []) : fm_ok K i ↔ K i = 0 := sorry
theorem fm_cons {K : Nat → Int32} {i o : Nat} {r : List Nat} (e : st_s K i = o :: r) : fm_ok K i ↔ (¬ K i = 0 ∧ (K i = 1 ∨ (st_sec (K i) ∧ K o = 6 ∧ (st_pc (K i) = true → st_n K st_pc o i < 3) ∧ (st_pc (K i) = false → st_n K st_pa o i < 1)) ∨
    (¬ K i = 1 ∧ ¬ st_sec (K i) ∧ ¬ (K o = 6 ∧ o + 1 = i) ∧ (K i = 3 → K o = 2 ∧ ¬ st_el K o i) ∧ (K i = 5 → ∃ b, b ∈ st_s K i ∧ K b = 4)))) := sorry
/-- the number of FUNC lines before a line -/
def st_f (K : Nat → Int32) : Nat → Nat
  | 0 => 0
  | i + 1 => st_f K i + (if K i = 0 then 1 else 0)
/-- what X's check of the form has written, up to line i -/
def fm_X (K : Nat → Int32) (i : Nat) (u : SX) : Prop :=
  (∀ j, j < i → xa_blockOf u j = st_h (st_s K j)) ∧
  (∀ e, e < i → K e = 1 → ∀ o r, st_s K e = o :: r → xa_endOf u o = nI e) ∧
  (∀ o, o < i → (xa_elseOf u o = -1 ∧ ¬ st_el K o i) ∨ ∃ j, j < i ∧ K j = 3 ∧ (st_s K j).head? = some o ∧ xa_elseOf u o = nI j) ∧
  (∀ j, j < i → K j = 0 → xa_functionLine u (st_f K j) = nI j) ∧
  xa_functionCount u = nI (st_f K i) ∧ 2 * st_f K i ≤ i + (if st_s K i = [] then 0 else 1)

/-! X: small methods over a kind -/
theorem xk_case {post : Int32 → Prop} {u : SX} {k : Int32} (h1 : st_pc k = true → post 1) (h0 : st_pc k = false → post 0) : wpX_isCase post u k := sorry
theorem xk_alt {post : Int32 → Prop} {u : SX} {k : Int32} (h1 : st_pa k = true → post 1) (h0 : st_pa k = false → post 0) : wpX_isAlternative post u k := sorry
theorem sec_or {k : Int32} : st_sec k ↔ st_pc k = true ∨ st_pa k = true := sorry
theorem xk_sec {post : Int32 → Prop} {u : SX} {k : Int32} (h1 : st_sec k → post 1) (h0 : ¬ st_sec k → post 0) : wpX_isSection post u k := sorry
theorem xk_start {post : Int32 → Prop} {u : SX} {k : Int32} (h1 : k = 14 ∨ k = 15 ∨ k = 16 → post 1) (h0 : ¬ (k = 14 ∨ k = 15 ∨ k = 16) → post 0) : wpX_isStart post u k := sorry
/-! X: the nearest LOOP outwards -/
theorem xl_loop {post : Int32 → Prop} {u : SX} {n : Nat} (n60 : n ≤ 60) (hb : ∀ j, j < n → xa_blockOf u j = st_h (st_s (xa_kinds u) j)) :
    ∀ (L : List Nat) (c : Nat), c + L.length ≤ 60 → (∀ b, b ∈ L → b < n) → (∀ b r, L = b :: r → st_s (xa_kinds u) b = r) → (∀ l b r, L = l ++ b :: r → st_s (xa_kinds u) b = r) →
    (∀ b, L.find? (fun b => xa_kinds u b == 4) = some b → post (nI b)) → (L.find? (fun b => xa_kinds u b == 4) = none → post (-1)) →
    ∀ m, L.length < m → wX_loopAround_4 post (xa_lineCount u) (xa_functionCount u) (xa_foundLine u) (xa_state u) (xa_time u) (xa_endingPanic u) (xa_outputCount u) (xa_channelCount u) (xa_goroutineCount u) (xa_waitsBegun u) (xa_running u) (xa_queueLength u) (xa_kinds u) (xa_argA u) (xa_argB u) (xa_argC u) (xa_blockOf u) (xa_endOf u) (xa_elseOf u) (xa_functionLine u) (xa_surelySet u) (xa_outputs u) (xa_capacity u) (xa_fill u) (xa_closed u) (xa_held u) (xa_status u) (xa_depth u) (xa_waitOrder u) (xa_waitUntil u) (xa_queue u) (xa_slotWish u) (xa_slotLine u) (xa_position u) (xa_mode u) (xa_panicOf u) (xa_noteCount u) (xa_noteFunction u) (xa_noteValues u) (xa_variables u) m (st_h L) (nI c) := sorry
theorem xl_loopAround {post : Int32 → Prop} {u : SX} {n i : Nat} (n60 : n ≤ 60) (hb : ∀ j, j < n → xa_blockOf u j = st_h (st_s (xa_kinds u) j)) (hi : i ≤ n)
    (hS : ∀ b, (st_s (xa_kinds u) i).find? (fun b => xa_kinds u b == 4) = some b → post (nI b)) (hN : (st_s (xa_kinds u) i).find? (fun b => xa_kinds u b == 4) = none → post (-1)) : wpX_loopAround post u (st_h (st_s (xa_kinds u) i)) := sorry
/-! X: the sections before -/
theorem xn_cnt {K : Nat → Int32} {P : Int32 → Bool} {o i : Nat} : st_n K P o (i + 1) = st_n K P o i + (if (st_s K i).head? = some o ∧ P (K i) = true then 1 else 0) := sorry
theorem xn_0 {K : Nat → Int32} {P : Int32 → Bool} {o : Nat} : ∀ i, i ≤ o + 1 → st_n K P o i = 0 := sorry
theorem st_hd_iff {L : List Nat} {o : Nat} (h : ∀ b, b ∈ L → b < 2 ^ 31) (ho : o < 2 ^ 31) : st_h L = nI o ↔ L.head? = some o := sorry
theorem xn_le {K : Nat → Int32} {P : Int32 → Bool} {o : Nat} : ∀ i, st_n K P o i ≤ i := sorry
theorem xs_44 {post : Int32 → Prop} {J : Int32 → Int32 → Int32 → Prop} {u : SX} {o i j c a : Nat} (ho : o < 60) (hj : j < 60) (hb : xa_blockOf u j = st_h (st_s (xa_kinds u) j))
    (h : J (nI c) (nI (a + (if (st_s (xa_kinds u) j).head? = some o ∧ st_pa (xa_kinds u j) = true then 1 else 0))) (nI (j + 1))) : wX_sectionFits_44 post J (nI o) (nI i) (nI c) (nI a) (nI j) (xa_lineCount u) (xa_functionCount u) (xa_foundLine u) (xa_state u) (xa_time u) (xa_endingPanic u) (xa_outputCount u) (xa_channelCount u) (xa_goroutineCount u) (xa_waitsBegun u) (xa_running u) (xa_queueLength u) (xa_kinds u) (xa_argA u) (xa_argB u) (xa_argC u) (xa_blockOf u) (xa_endOf u) (xa_elseOf u) (xa_functionLine u) (xa_surelySet u) (xa_outputs u) (xa_capacity u) (xa_fill u) (xa_closed u) (xa_held u) (xa_status u) (xa_depth u) (xa_waitOrder u) (xa_waitUntil u) (xa_queue u) (xa_slotWish u) (xa_slotLine u) (xa_position u) (xa_mode u) (xa_panicOf u) (xa_noteCount u) (xa_noteFunction u) (xa_noteValues u) (xa_variables u) := sorry
theorem xs_loop {post : Int32 → Prop} {u : SX} {o i : Nat} (ho : o < 60) (hi : i < 60) (hb : ∀ j, j < i → xa_blockOf u j = st_h (st_s (xa_kinds u) j))
    (h1 : (st_pc (xa_kinds u i) = true → st_n (xa_kinds u) st_pc o i < 3) ∧ (st_pc (xa_kinds u i) = false → st_n (xa_kinds u) st_pa o i < 1) → post 1)
    (h0 : ¬ ((st_pc (xa_kinds u i) = true → st_n (xa_kinds u) st_pc o i < 3) ∧ (st_pc (xa_kinds u i) = false → st_n (xa_kinds u) st_pa o i < 1)) → post 0) :
    ∀ d j, j + d = i → ∀ m, d < m → wX_sectionFits_10 post (nI o) (nI i) (xa_lineCount u) (xa_functionCount u) (xa_foundLine u) (xa_state u) (xa_time u) (xa_endingPanic u) (xa_outputCount u) (xa_channelCount u) (xa_goroutineCount u) (xa_waitsBegun u) (xa_running u) (xa_queueLength u) (xa_kinds u) (xa_argA u) (xa_argB u) (xa_argC u) (xa_blockOf u) (xa_endOf u) (xa_elseOf u) (xa_functionLine u) (xa_surelySet u) (xa_outputs u) (xa_capacity u) (xa_fill u) (xa_closed u) (xa_held u) (xa_status u) (xa_depth u) (xa_waitOrder u) (xa_waitUntil u) (xa_queue u) (xa_slotWish u) (xa_slotLine u) (xa_position u) (xa_mode u) (xa_panicOf u) (xa_noteCount u) (xa_noteFunction u) (xa_noteValues u) (xa_variables u) m (nI (st_n (xa_kinds u) st_pc o j)) (nI (st_n (xa_kinds u) st_pa o j)) (nI j) := sorry
theorem xs_fits {post : Int32 → Prop} {u : SX} {o i : Nat} (ho : o < i) (hi : i < 60) (hb : ∀ j, j < i → xa_blockOf u j = st_h (st_s (xa_kinds u) j))
    (h1 : (st_pc (xa_kinds u i) = true → st_n (xa_kinds u) st_pc o i < 3) ∧ (st_pc (xa_kinds u i) = false → st_n (xa_kinds u) st_pa o i < 1) → post 1)
    (h0 : ¬ ((st_pc (xa_kinds u i) = true → st_n (xa_kinds u) st_pc o i < 3) ∧ (st_pc (xa_kinds u i) = false → st_n (xa_kinds u) st_pa o i < 1)) → post 0) : wpX_sectionFits post u (nI o) (nI i) := sorry
theorem ne_m1 {b : Nat} (h : b < 2 ^ 31) : ¬ nI b = -1 := sorry
theorem xf_89 {post : Int32 → Prop} {u : SX} {n i o : Nat} {r : List Nat} (n60 : n ≤ 60) (hi : i < n) (hb : ∀ j, j < i → xa_blockOf u j = st_h (st_s (xa_kinds u) j))
    (he : ∀ o, o < i → (xa_elseOf u o = -1 ∧ ¬ st_el (xa_kinds u) o i) ∨ ∃ j, j < i ∧ xa_kinds u j = 3 ∧ (st_s (xa_kinds u) j).head? = some o ∧ xa_elseOf u o = nI j) (e : st_s (xa_kinds u) i = o :: r)
    (h1 : (xa_kinds u i = 3 → xa_kinds u o = 2 ∧ ¬ st_el (xa_kinds u) o i) ∧ (xa_kinds u i = 5 → ∃ b, b ∈ st_s (xa_kinds u) i ∧ xa_kinds u b = 4) → post 1)
    (h0 : ¬ ((xa_kinds u i = 3 → xa_kinds u o = 2 ∧ ¬ st_el (xa_kinds u) o i) ∧ (xa_kinds u i = 5 → ∃ b, b ∈ st_s (xa_kinds u) i ∧ xa_kinds u b = 4)) → post 0) : cx_fitsInto_89 post (nI o) (xa_kinds u i) u := sorry
theorem xf_fits {post : Int32 → Prop} {u : SX} {n i : Nat} (n60 : n ≤ 60) (hi : i < n) (hb : ∀ j, j < i → xa_blockOf u j = st_h (st_s (xa_kinds u) j))
    (he : ∀ o, o < i → (xa_elseOf u o = -1 ∧ ¬ st_el (xa_kinds u) o i) ∨ ∃ j, j < i ∧ xa_kinds u j = 3 ∧ (st_s (xa_kinds u) j).head? = some o ∧ xa_elseOf u o = nI j)
    (h1 : fm_ok (xa_kinds u) i → post 1) (h0 : ¬ fm_ok (xa_kinds u) i → post 0) : wpX_fitsInto post u (st_h (st_s (xa_kinds u) i)) (nI i) := sorry
