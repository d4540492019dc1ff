/-! the form of the lines -/
def st_h : List Nat → Int32
  | [] => -1
  | b :: _ => nI b
def st_n (K : Nat → Int32) (P : Int32 → Bool) (o : Nat) : Nat → Nat
  | 0 => 0
  | i + 1 => st_n K P o i + (if (st_s K i).head? = some o ∧ P (K i) = true then 1 else 0)
def st_pc (k : Int32) : Bool := k == 7 || k == 8
def st_pa (k : Int32) : Bool := k == 9 || k == 29
theorem st_pc_iff {k : Int32} : st_pc k = true ↔ k = 7 ∨ k = 8 := by simp [st_pc]
theorem st_pa_iff {k : Int32} : st_pa k = true ↔ k = 9 ∨ k = 29 := by simp [st_pa]
/-- block o has an ELSE before line i -/
def st_el (K : Nat → Int32) (o i : Nat) : Prop := ∃ j, j < i ∧ K j = 3 ∧ (st_s K j).head? = some o
def fm_ok (K : Nat → Int32) (i : Nat) : Prop := match st_s K i with
  | [] => K i = 0
  | o :: _ => ¬ K i = 0 ∧ (K i = 1 ∨ (st_sec (K i) ∧ K o = 6 ∧ (st_pc (K i) = true → st_n K st_pc o i < 3) ∧ (st_pc (K i) = false → st_n K st_pa o i < 1)) ∨
    (¬ K i = 1 ∧ ¬ st_sec (K i) ∧ ¬ (K o = 6 ∧ o + 1 = i) ∧ (K i = 3 → K o = 2 ∧ ¬ st_el K o i) ∧ (K i = 5 → ∃ b, b ∈ st_s K i ∧ K b = 4)))
def fm_res (K : Nat → Int32) (n : Nat) (r : Int32) : Prop :=
  (∃ i, i < n ∧ (∀ j, j < i → fm_ok K j) ∧ ¬ fm_ok K i ∧ r = nI i) ∨
  ((∀ j, j < n → fm_ok K j) ∧ ((st_s K n = [] ∧ 0 < n ∧ r = -1) ∨ (¬ (st_s K n = [] ∧ 0 < n) ∧ r = nI n)))
theorem fm_uniq {K : Nat → Int32} {n : Nat} {r r' : Int32} (h : fm_res K n r) (h' : fm_res K n r') : r' = r := by
  rcases h with ⟨i, a, b, c, d⟩ | ⟨b, c⟩
  · rcases h' with ⟨i', a', b', c', d'⟩ | ⟨b', c'⟩
    · rcases Nat.lt_trichotomy i i' with z | z | z
      · exact absurd (b' i z) c
      · subst z; rw [d, d']
      · exact absurd (b i' z) c'
    · exact absurd (b' i a) c
  · rcases h' with ⟨i', a', b', c', d'⟩ | ⟨b', c'⟩
    · exact absurd (b i' a') c'
    · rcases c with ⟨c1, c2, c3⟩ | ⟨c1, c3⟩ <;> rcases c' with ⟨d1, d2, d3⟩ | ⟨d1, d3⟩
      · rw [c3, d3]
      · exact absurd ⟨c1, c2⟩ d1
      · exact absurd ⟨d1, d2⟩ c1
      · rw [c3, d3]
theorem fm_nil {K : Nat → Int32} {i : Nat} (e : st_s K i = []) : fm_ok K i ↔ K i = 0 := by
  unfold fm_ok; rw [e]
theorem fm_cons {K : Nat → Int32} {i o : Nat} {r : List Nat} (e : st_s K i = o :: r) : fm_ok K i ↔ (¬ K i = 0 ∧ (K i = 1 ∨ (st_sec (K i) ∧ K o = 6 ∧ (st_pc (K i) = true → st_n K st_pc o i < 3) ∧ (st_pc (K i) = false → st_n K st_pa o i < 1)) ∨
    (¬ K i = 1 ∧ ¬ st_sec (K i) ∧ ¬ (K o = 6 ∧ o + 1 = i) ∧ (K i = 3 → K o = 2 ∧ ¬ st_el K o i) ∧ (K i = 5 → ∃ b, b ∈ st_s K i ∧ K b = 4)))) := by
  unfold fm_ok; rw [e]
/-- the number of FUNC lines before a line -/
def st_f (K : Nat → Int32) : Nat → Nat
  | 0 => 0
  | i + 1 => st_f K i + (if K i = 0 then 1 else 0)
/-- what X's check of the form has written, up to line i -/
def fm_X (K : Nat → Int32) (i : Nat) (u : SX) : Prop :=
  (∀ j, j < i → xa_blockOf u j = st_h (st_s K j)) ∧
  (∀ e, e < i → K e = 1 → ∀ o r, st_s K e = o :: r → xa_endOf u o = nI e) ∧
  (∀ o, o < i → (xa_elseOf u o = -1 ∧ ¬ st_el K o i) ∨ ∃ j, j < i ∧ K j = 3 ∧ (st_s K j).head? = some o ∧ xa_elseOf u o = nI j) ∧
  (∀ j, j < i → K j = 0 → xa_functionLine u (st_f K j) = nI j) ∧
  xa_functionCount u = nI (st_f K i) ∧ 2 * st_f K i ≤ i + (if st_s K i = [] then 0 else 1)

/-! X: small methods over a kind -/
theorem xk_case {post : Int32 → Prop} {u : SX} {k : Int32} (h1 : st_pc k = true → post 1) (h0 : st_pc k = false → post 0) : wpX_isCase post u k := by
  obtain ⟨f_lineCount, f_functionCount, f_foundLine, f_state, f_time, f_endingPanic, f_outputCount, f_channelCount, f_goroutineCount, f_waitsBegun, f_running, f_queueLength, a_kinds, a_argA, a_argB, a_argC, a_blockOf, a_endOf, a_elseOf, a_functionLine, a_surelySet, a_outputs, a_capacity, a_fill, a_closed, a_held, a_status, a_depth, a_waitOrder, a_waitUntil, a_queue, a_slotWish, a_slotLine, a_position, a_mode, a_panicOf, a_noteCount, a_noteFunction, a_noteValues, a_variables⟩ := u
  refine br_c (fun a => h1 (st_pc_iff.mpr (Or.inl a))) (fun a => br_c (fun b => h1 (st_pc_iff.mpr (Or.inr b))) (fun b => h0 ?_))
  simp [st_pc, a, b]
theorem xk_alt {post : Int32 → Prop} {u : SX} {k : Int32} (h1 : st_pa k = true → post 1) (h0 : st_pa k = false → post 0) : wpX_isAlternative post u k := by
  obtain ⟨f_lineCount, f_functionCount, f_foundLine, f_state, f_time, f_endingPanic, f_outputCount, f_channelCount, f_goroutineCount, f_waitsBegun, f_running, f_queueLength, a_kinds, a_argA, a_argB, a_argC, a_blockOf, a_endOf, a_elseOf, a_functionLine, a_surelySet, a_outputs, a_capacity, a_fill, a_closed, a_held, a_status, a_depth, a_waitOrder, a_waitUntil, a_queue, a_slotWish, a_slotLine, a_position, a_mode, a_panicOf, a_noteCount, a_noteFunction, a_noteValues, a_variables⟩ := u
  refine br_c (fun a => h1 (st_pa_iff.mpr (Or.inl a))) (fun a => br_c (fun b => h1 (st_pa_iff.mpr (Or.inr b))) (fun b => h0 ?_))
  simp [st_pa, a, b]
theorem sec_or {k : Int32} : st_sec k ↔ st_pc k = true ∨ st_pa k = true := by
  rw [st_pc_iff, st_pa_iff]
  constructor
  · rintro (h | h | h | h) <;> simp [h]
  · rintro ((h | h) | (h | h)) <;> (subst h; decide)
theorem xk_sec {post : Int32 → Prop} {u : SX} {k : Int32} (h1 : st_sec k → post 1) (h0 : ¬ st_sec k → post 0) : wpX_isSection post u k := by
  have key : wpX_isCase (fun r_1 => (((r_1 = 0 → (wpX_isAlternative (fun r_43 => (((r_43 = 0 → (post 0)) ∧ (¬ r_43 = 0 → (post 1))))) u k)) ∧ (¬ r_1 = 0 → (post 1))))) u k := by
    refine xk_case (fun a => br_f (by decide) (h1 (sec_or.mpr (Or.inl a)))) (fun a => br_t rfl (xk_alt (fun b => br_f (by decide) (h1 (sec_or.mpr (Or.inr b)))) (fun b => br_t rfl (h0 ?_))))
    rw [sec_or, a, b]; decide
  obtain ⟨f_lineCount, f_functionCount, f_foundLine, f_state, f_time, f_endingPanic, f_outputCount, f_channelCount, f_goroutineCount, f_waitsBegun, f_running, f_queueLength, a_kinds, a_argA, a_argB, a_argC, a_blockOf, a_endOf, a_elseOf, a_functionLine, a_surelySet, a_outputs, a_capacity, a_fill, a_closed, a_held, a_status, a_depth, a_waitOrder, a_waitUntil, a_queue, a_slotWish, a_slotLine, a_position, a_mode, a_panicOf, a_noteCount, a_noteFunction, a_noteValues, a_variables⟩ := u
  exact key
theorem xk_start {post : Int32 → Prop} {u : SX} {k : Int32} (h1 : k = 14 ∨ k = 15 ∨ k = 16 → post 1) (h0 : ¬ (k = 14 ∨ k = 15 ∨ k = 16) → post 0) : wpX_isStart post u k := by
  obtain ⟨f_lineCount, f_functionCount, f_foundLine, f_state, f_time, f_endingPanic, f_outputCount, f_channelCount, f_goroutineCount, f_waitsBegun, f_running, f_queueLength, a_kinds, a_argA, a_argB, a_argC, a_blockOf, a_endOf, a_elseOf, a_functionLine, a_surelySet, a_outputs, a_capacity, a_fill, a_closed, a_held, a_status, a_depth, a_waitOrder, a_waitUntil, a_queue, a_slotWish, a_slotLine, a_position, a_mode, a_panicOf, a_noteCount, a_noteFunction, a_noteValues, a_variables⟩ := u
  exact br_c (fun a => h1 (Or.inl a)) (fun a => br_c (fun b => h1 (Or.inr (Or.inl b))) (fun b => br_c (fun c => h1 (Or.inr (Or.inr c))) (fun c => h0 (fun z => z.elim a (fun z => z.elim b c)))))
/-! X: the nearest LOOP outwards -/
theorem xl_loop {post : Int32 → Prop} {u : SX} {n : Nat} (n60 : n ≤ 60) (hb : ∀ j, j < n → xa_blockOf u j = st_h (st_s (xa_kinds u) j)) :
    ∀ (L : List Nat) (c : Nat), c + L.length ≤ 60 → (∀ b, b ∈ L → b < n) → (∀ b r, L = b :: r → st_s (xa_kinds u) b = r) → (∀ l b r, L = l ++ b :: r → st_s (xa_kinds u) b = r) →
    (∀ b, L.find? (fun b => xa_kinds u b == 4) = some b → post (nI b)) → (L.find? (fun b => xa_kinds u b == 4) = none → post (-1)) →
    ∀ m, L.length < m → wX_loopAround_4 post (xa_lineCount u) (xa_functionCount u) (xa_foundLine u) (xa_state u) (xa_time u) (xa_endingPanic u) (xa_outputCount u) (xa_channelCount u) (xa_goroutineCount u) (xa_waitsBegun u) (xa_running u) (xa_queueLength u) (xa_kinds u) (xa_argA u) (xa_argB u) (xa_argC u) (xa_blockOf u) (xa_endOf u) (xa_elseOf u) (xa_functionLine u) (xa_surelySet u) (xa_outputs u) (xa_capacity u) (xa_fill u) (xa_closed u) (xa_held u) (xa_status u) (xa_depth u) (xa_waitOrder u) (xa_waitUntil u) (xa_queue u) (xa_slotWish u) (xa_slotLine u) (xa_position u) (xa_mode u) (xa_panicOf u) (xa_noteCount u) (xa_noteFunction u) (xa_noteValues u) (xa_variables u) m (st_h L) (nI c) := by
  intro L
  induction L with
  | nil =>
    intro c hc _ _ _ _ hN m hm
    obtain ⟨m, rfl⟩ : ∃ q, m = q + 1 := ⟨m - 1, by simp at hm; omega⟩
    by_cases z : 60 ≤ c
    · exact br_t (nI_le (a := 60) z (by simp at hc; omega)) (hN rfl)
    · exact br_f (nI_ge (b := 60) (by omega) (by decide)) (br_t rfl (hN rfl))
  | cons b L ih =>
    intro c hc hn h1 h2 hS hN m hm
    obtain ⟨m, rfl⟩ : ∃ q, m = q + 1 := ⟨m - 1, by rw [List.length_cons] at hm; omega⟩
    rw [List.length_cons] at hc hm
    have hb60 : b < 60 := Nat.lt_of_lt_of_le (hn b List.mem_cons_self) n60
    have ne : ¬ nI b = -1 := by
      intro z
      have := congrArg Int32.toInt z
      rw [nI_toInt (by omega), show (-1 : Int32).toInt = -1 from rfl] at this
      omega
    show wX_loopAround_4 post (xa_lineCount u) (xa_functionCount u) (xa_foundLine u) (xa_state u) (xa_time u) (xa_endingPanic u) (xa_outputCount u) (xa_channelCount u) (xa_goroutineCount u) (xa_waitsBegun u) (xa_running u) (xa_queueLength u) (xa_kinds u) (xa_argA u) (xa_argB u) (xa_argC u) (xa_blockOf u) (xa_endOf u) (xa_elseOf u) (xa_functionLine u) (xa_surelySet u) (xa_outputs u) (xa_capacity u) (xa_fill u) (xa_closed u) (xa_held u) (xa_status u) (xa_depth u) (xa_waitOrder u) (xa_waitUntil u) (xa_queue u) (xa_slotWish u) (xa_slotLine u) (xa_position u) (xa_mode u) (xa_panicOf u) (xa_noteCount u) (xa_noteFunction u) (xa_noteValues u) (xa_variables u) (m + 1) (nI b) (nI c)
    refine br_f (nI_ge (b := 60) (by omega) (by decide)) (br_f ne ⟨vp_in_nI hb60 (by decide), ?_⟩)
    rw [nI_clamp (by omega)]
    by_cases k4 : xa_kinds u b = 4
    · exact br_t k4 (hS b (by rw [List.find?_cons, show (xa_kinds u b == 4) = true from by simp [k4]]))
    · refine br_f k4 ⟨vp_in_nI hb60 (by decide), ?_⟩
      have fe : (b :: L).find? (fun b => xa_kinds u b == 4) = L.find? (fun b => xa_kinds u b == 4) := by
        rw [List.find?_cons, show (xa_kinds u b == 4) = false from by simp [k4]]
      rw [fe] at hS hN
      refine nm_r (hb b (hn b List.mem_cons_self)) (nm_r (nI_1 _) ?_)
      rw [h1 b L rfl]
      exact ih (c + 1) (by omega) (fun x hx => hn x (List.mem_cons_of_mem _ hx)) (fun x r e => h2 (b :: []) x r (by rw [e]; rfl)) (fun l x r e => h2 (b :: l) x r (by rw [e]; rfl)) hS hN m (by omega)
theorem xl_loopAround {post : Int32 → Prop} {u : SX} {n i : Nat} (n60 : n ≤ 60) (hb : ∀ j, j < n → xa_blockOf u j = st_h (st_s (xa_kinds u) j)) (hi : i ≤ n)
    (hS : ∀ b, (st_s (xa_kinds u) i).find? (fun b => xa_kinds u b == 4) = some b → post (nI b)) (hN : (st_s (xa_kinds u) i).find? (fun b => xa_kinds u b == 4) = none → post (-1)) : wpX_loopAround post u (st_h (st_s (xa_kinds u) i)) := by
  have lb := st_bnd (xa_kinds u) i
  have key := xl_loop (u := u) n60 hb (st_s (xa_kinds u) i) 0 (by omega) (fun b h => by have := (st_lt h).1; omega) (fun b r e => st_hd e) (fun l b r e => st_sfx e) hS hN _ (Nat.lt_succ_self _)
  obtain ⟨f_lineCount, f_functionCount, f_foundLine, f_state, f_time, f_endingPanic, f_outputCount, f_channelCount, f_goroutineCount, f_waitsBegun, f_running, f_queueLength, a_kinds, a_argA, a_argB, a_argC, a_blockOf, a_endOf, a_elseOf, a_functionLine, a_surelySet, a_outputs, a_capacity, a_fill, a_closed, a_held, a_status, a_depth, a_waitOrder, a_waitUntil, a_queue, a_slotWish, a_slotLine, a_position, a_mode, a_panicOf, a_noteCount, a_noteFunction, a_noteValues, a_variables⟩ := u
  exact ⟨_, key⟩
/-! X: the sections before -/
theorem xn_cnt {K : Nat → Int32} {P : Int32 → Bool} {o i : Nat} : st_n K P o (i + 1) = st_n K P o i + (if (st_s K i).head? = some o ∧ P (K i) = true then 1 else 0) := rfl
theorem xn_0 {K : Nat → Int32} {P : Int32 → Bool} {o : Nat} : ∀ i, i ≤ o + 1 → st_n K P o i = 0 := by
  intro i
  induction i with
  | zero => intro _; rfl
  | succ i ih =>
    intro h
    rw [xn_cnt, ih (by omega), if_neg]
    rintro ⟨a, _⟩
    cases e : st_s K i with
    | nil => rw [e] at a; cases a
    | cons x t =>
      rw [e] at a
      have : x = o := by simpa using a
      have := (st_lt (K := K) (i := i) (b := x) (by rw [e]; exact List.mem_cons_self)).1
      omega
theorem st_hd_iff {L : List Nat} {o : Nat} (h : ∀ b, b ∈ L → b < 2 ^ 31) (ho : o < 2 ^ 31) : st_h L = nI o ↔ L.head? = some o := by
  cases L with
  | nil =>
    constructor
    · intro z
      have := congrArg Int32.toInt z
      rw [nI_toInt ho, show (st_h []).toInt = -1 from rfl] at this
      omega
    · intro z; cases z
  | cons x t =>
    show nI x = nI o ↔ some x = some o
    rw [nI_eq (h x List.mem_cons_self) ho]
    simp
theorem xn_le {K : Nat → Int32} {P : Int32 → Bool} {o : Nat} : ∀ i, st_n K P o i ≤ i := by
  intro i
  induction i with
  | zero => exact Nat.le_refl 0
  | succ i ih => rw [xn_cnt]; split <;> omega
theorem xs_44 {post : Int32 → Prop} {J : Int32 → Int32 → Int32 → Prop} {u : SX} {o i j c a : Nat} (ho : o < 60) (hj : j < 60) (hb : xa_blockOf u j = st_h (st_s (xa_kinds u) j))
    (h : J (nI c) (nI (a + (if (st_s (xa_kinds u) j).head? = some o ∧ st_pa (xa_kinds u j) = true then 1 else 0))) (nI (j + 1))) : wX_sectionFits_44 post J (nI o) (nI i) (nI c) (nI a) (nI j) (xa_lineCount u) (xa_functionCount u) (xa_foundLine u) (xa_state u) (xa_time u) (xa_endingPanic u) (xa_outputCount u) (xa_channelCount u) (xa_goroutineCount u) (xa_waitsBegun u) (xa_running u) (xa_queueLength u) (xa_kinds u) (xa_argA u) (xa_argB u) (xa_argC u) (xa_blockOf u) (xa_endOf u) (xa_elseOf u) (xa_functionLine u) (xa_surelySet u) (xa_outputs u) (xa_capacity u) (xa_fill u) (xa_closed u) (xa_held u) (xa_status u) (xa_depth u) (xa_waitOrder u) (xa_waitUntil u) (xa_queue u) (xa_slotWish u) (xa_slotLine u) (xa_position u) (xa_mode u) (xa_panicOf u) (xa_noteCount u) (xa_noteFunction u) (xa_noteValues u) (xa_variables u) := by
  have hd : st_h (st_s (xa_kinds u) j) = nI o ↔ (st_s (xa_kinds u) j).head? = some o := st_hd_iff (fun b m => by have := (st_lt m).1; omega) (by omega)
  refine ⟨vp_in_nI hj (by decide), ?_⟩
  rw [nI_clamp (by omega), hb, hd]
  refine br_c (fun z => ⟨vp_in_nI hj (by decide), ?_⟩) (fun z => nm_r (nI_1 _) ?_)
  · refine xk_alt (u := (xa_lineCount u, xa_functionCount u, xa_foundLine u, xa_state u, xa_time u, xa_endingPanic u, xa_outputCount u, xa_channelCount u, xa_goroutineCount u, xa_waitsBegun u, xa_running u, xa_queueLength u, xa_kinds u, xa_argA u, xa_argB u, xa_argC u, xa_blockOf u, xa_endOf u, xa_elseOf u, xa_functionLine u, xa_surelySet u, xa_outputs u, xa_capacity u, xa_fill u, xa_closed u, xa_held u, xa_status u, xa_depth u, xa_waitOrder u, xa_waitUntil u, xa_queue u, xa_slotWish u, xa_slotLine u, xa_position u, xa_mode u, xa_panicOf u, xa_noteCount u, xa_noteFunction u, xa_noteValues u, xa_variables u)) (fun y => br_f (by decide) (nm_r (nI_1 _) (nm_r (nI_1 _) ?_))) (fun y => br_t rfl (nm_r (nI_1 _) ?_))
    · rw [if_pos ⟨z, y⟩] at h; exact h
    · rw [if_neg (fun w => by rw [y] at w; exact absurd w.2 (by decide))] at h; exact h
  · rw [if_neg (fun w => z w.1)] at h; exact h
theorem xs_loop {post : Int32 → Prop} {u : SX} {o i : Nat} (ho : o < 60) (hi : i < 60) (hb : ∀ j, j < i → xa_blockOf u j = st_h (st_s (xa_kinds u) j))
    (h1 : (st_pc (xa_kinds u i) = true → st_n (xa_kinds u) st_pc o i < 3) ∧ (st_pc (xa_kinds u i) = false → st_n (xa_kinds u) st_pa o i < 1) → post 1)
    (h0 : ¬ ((st_pc (xa_kinds u i) = true → st_n (xa_kinds u) st_pc o i < 3) ∧ (st_pc (xa_kinds u i) = false → st_n (xa_kinds u) st_pa o i < 1)) → post 0) :
    ∀ d j, j + d = i → ∀ m, d < m → wX_sectionFits_10 post (nI o) (nI i) (xa_lineCount u) (xa_functionCount u) (xa_foundLine u) (xa_state u) (xa_time u) (xa_endingPanic u) (xa_outputCount u) (xa_channelCount u) (xa_goroutineCount u) (xa_waitsBegun u) (xa_running u) (xa_queueLength u) (xa_kinds u) (xa_argA u) (xa_argB u) (xa_argC u) (xa_blockOf u) (xa_endOf u) (xa_elseOf u) (xa_functionLine u) (xa_surelySet u) (xa_outputs u) (xa_capacity u) (xa_fill u) (xa_closed u) (xa_held u) (xa_status u) (xa_depth u) (xa_waitOrder u) (xa_waitUntil u) (xa_queue u) (xa_slotWish u) (xa_slotLine u) (xa_position u) (xa_mode u) (xa_panicOf u) (xa_noteCount u) (xa_noteFunction u) (xa_noteValues u) (xa_variables u) m (nI (st_n (xa_kinds u) st_pc o j)) (nI (st_n (xa_kinds u) st_pa o j)) (nI j) := by
  intro d
  induction d with
  | zero =>
    intro j hj m hm
    obtain ⟨m, rfl⟩ : ∃ q, m = q + 1 := ⟨m - 1, by omega⟩
    have e : j = i := by omega
    subst e
    have la := xn_le (K := xa_kinds u) (P := st_pa) (o := o) j
    have lc := xn_le (K := xa_kinds u) (P := st_pc) (o := o) j
    refine br_t (nI_le (Nat.le_refl _) (by omega)) ⟨vp_in_nI hi (by decide), ?_⟩
    rw [nI_clamp (by omega)]
    refine xk_case (u := (xa_lineCount u, xa_functionCount u, xa_foundLine u, xa_state u, xa_time u, xa_endingPanic u, xa_outputCount u, xa_channelCount u, xa_goroutineCount u, xa_waitsBegun u, xa_running u, xa_queueLength u, xa_kinds u, xa_argA u, xa_argB u, xa_argC u, xa_blockOf u, xa_endOf u, xa_elseOf u, xa_functionLine u, xa_surelySet u, xa_outputs u, xa_capacity u, xa_fill u, xa_closed u, xa_held u, xa_status u, xa_depth u, xa_waitOrder u, xa_waitUntil u, xa_queue u, xa_slotWish u, xa_slotLine u, xa_position u, xa_mode u, xa_panicOf u, xa_noteCount u, xa_noteFunction u, xa_noteValues u, xa_variables u)) (fun y => br_f (by decide) ?_) (fun y => br_t rfl ?_)
    · by_cases q : st_n (xa_kinds u) st_pc o j < 3
      · exact br_f (nI_ge (b := 3) q (by decide)) (h1 ⟨fun _ => q, fun z => absurd (y.symm.trans z) (by decide)⟩)
      · exact br_t (nI_le (a := 3) (by omega) (by omega)) (h0 (fun z => q (z.1 y)))
    · by_cases q : st_n (xa_kinds u) st_pa o j < 1
      · exact br_f (nI_ge (b := 1) q (by decide)) (h1 ⟨fun z => absurd (y.symm.trans z) (by decide), fun _ => q⟩)
      · exact br_t (nI_le (a := 1) (by omega) (by omega)) (h0 (fun z => q (z.2 y)))
  | succ d ih =>
    intro j hj m hm
    obtain ⟨m, rfl⟩ : ∃ q, m = q + 1 := ⟨m - 1, by omega⟩
    have hd : st_h (st_s (xa_kinds u) j) = nI o ↔ (st_s (xa_kinds u) j).head? = some o := st_hd_iff (fun b m => by have := (st_lt m).1; omega) (by omega)
    have nx := ih (j + 1) (by omega) m (by omega)
    rw [xn_cnt, xn_cnt] at nx
    refine br_f (nI_ge (by omega) (by omega)) ⟨vp_in_nI (by omega) (by decide), ?_⟩
    rw [nI_clamp (by omega), hb j (by omega), hd]
    refine br_c (fun z => ⟨vp_in_nI (by omega) (by decide), ?_⟩) (fun z => ?_)
    · refine xk_case (u := (xa_lineCount u, xa_functionCount u, xa_foundLine u, xa_state u, xa_time u, xa_endingPanic u, xa_outputCount u, xa_channelCount u, xa_goroutineCount u, xa_waitsBegun u, xa_running u, xa_queueLength u, xa_kinds u, xa_argA u, xa_argB u, xa_argC u, xa_blockOf u, xa_endOf u, xa_elseOf u, xa_functionLine u, xa_surelySet u, xa_outputs u, xa_capacity u, xa_fill u, xa_closed u, xa_held u, xa_status u, xa_depth u, xa_waitOrder u, xa_waitUntil u, xa_queue u, xa_slotWish u, xa_slotLine u, xa_position u, xa_mode u, xa_panicOf u, xa_noteCount u, xa_noteFunction u, xa_noteValues u, xa_variables u)) (fun y => br_f (by decide) (nm_r (nI_1 _) ?_)) (fun y => br_t rfl ?_)
      · rw [if_pos ⟨z, y⟩] at nx
        exact xs_44 ho (by omega) (hb j (by omega)) nx
      · rw [if_neg (fun w => by rw [y] at w; exact absurd w.2 (by decide))] at nx
        exact xs_44 ho (by omega) (hb j (by omega)) nx
    · rw [if_neg (fun w => z w.1)] at nx
      exact xs_44 ho (by omega) (hb j (by omega)) nx
theorem xs_fits {post : Int32 → Prop} {u : SX} {o i : Nat} (ho : o < i) (hi : i < 60) (hb : ∀ j, j < i → xa_blockOf u j = st_h (st_s (xa_kinds u) j))
    (h1 : (st_pc (xa_kinds u i) = true → st_n (xa_kinds u) st_pc o i < 3) ∧ (st_pc (xa_kinds u i) = false → st_n (xa_kinds u) st_pa o i < 1) → post 1)
    (h0 : ¬ ((st_pc (xa_kinds u i) = true → st_n (xa_kinds u) st_pc o i < 3) ∧ (st_pc (xa_kinds u i) = false → st_n (xa_kinds u) st_pa o i < 1)) → post 0) : wpX_sectionFits post u (nI o) (nI i) := by
  have key := xs_loop (u := u) (o := o) (by omega) hi hb h1 h0 (i - (o + 1)) (o + 1) (by omega) i (by omega)
  rw [xn_0 (o + 1) (Nat.le_refl _), xn_0 (o + 1) (Nat.le_refl _)] at key
  obtain ⟨f_lineCount, f_functionCount, f_foundLine, f_state, f_time, f_endingPanic, f_outputCount, f_channelCount, f_goroutineCount, f_waitsBegun, f_running, f_queueLength, a_kinds, a_argA, a_argB, a_argC, a_blockOf, a_endOf, a_elseOf, a_functionLine, a_surelySet, a_outputs, a_capacity, a_fill, a_closed, a_held, a_status, a_depth, a_waitOrder, a_waitUntil, a_queue, a_slotWish, a_slotLine, a_position, a_mode, a_panicOf, a_noteCount, a_noteFunction, a_noteValues, a_variables⟩ := u
  exact nm_r (nI_1 _) ⟨_, key⟩
theorem ne_m1 {b : Nat} (h : b < 2 ^ 31) : ¬ nI b = -1 := by
  intro z
  have := congrArg Int32.toInt z
  rw [nI_toInt h, show (-1 : Int32).toInt = -1 from rfl] at this
  omega
theorem xf_89 {post : Int32 → Prop} {u : SX} {n i o : Nat} {r : List Nat} (n60 : n ≤ 60) (hi : i < n) (hb : ∀ j, j < i → xa_blockOf u j = st_h (st_s (xa_kinds u) j))
    (he : ∀ o, o < i → (xa_elseOf u o = -1 ∧ ¬ st_el (xa_kinds u) o i) ∨ ∃ j, j < i ∧ xa_kinds u j = 3 ∧ (st_s (xa_kinds u) j).head? = some o ∧ xa_elseOf u o = nI j) (e : st_s (xa_kinds u) i = o :: r)
    (h1 : (xa_kinds u i = 3 → xa_kinds u o = 2 ∧ ¬ st_el (xa_kinds u) o i) ∧ (xa_kinds u i = 5 → ∃ b, b ∈ st_s (xa_kinds u) i ∧ xa_kinds u b = 4) → post 1)
    (h0 : ¬ ((xa_kinds u i = 3 → xa_kinds u o = 2 ∧ ¬ st_el (xa_kinds u) o i) ∧ (xa_kinds u i = 5 → ∃ b, b ∈ st_s (xa_kinds u) i ∧ xa_kinds u b = 4)) → post 0) : cx_fitsInto_89 post (nI o) (xa_kinds u i) u := by
  rw [ux_fitsInto_89]
  have ho : o < i := (st_lt (K := xa_kinds u) (i := i) (b := o) (by rw [e]; exact List.mem_cons_self)).1
  have ec : (nI o).toNatClampNeg = o := nI_clamp (by omega)
  refine br_c (fun k3 => ⟨vp_in_nI (by omega) (by decide), ?_⟩) (fun k3 => br_c (fun k5 => ?_) (fun k5 => h1 ⟨fun z => absurd z k3, fun z => absurd z k5⟩))
  · rw [ec]
    refine br_c (fun k2 => ⟨vp_in_nI (by omega) (by decide), ?_⟩) (fun k2 => h0 (fun z => k2 (z.1 k3).1))
    rcases he o ho with ⟨a, b⟩ | ⟨j, a, b, c, d⟩
    · exact br_t a (h1 ⟨fun _ => ⟨k2, b⟩, fun z => by rw [k3] at z; exact absurd z (by decide)⟩)
    · exact br_f (by rw [d]; exact ne_m1 (by omega)) (h0 (fun z => (z.1 k3).2 ⟨j, a, b, c⟩))
  · have key := xl_loopAround (u := u) (n := i) (i := i) (post := fun r_52 => (((r_52 = (-1) → (post 0)) ∧ (¬ r_52 = (-1) → (post 1))))) (by omega) hb (Nat.le_refl _) (fun b hb' => br_f (ne_m1 ?_) (h1 ⟨fun z => absurd z k3, fun _ => ⟨b, ?_, ?_⟩⟩)) (fun hN => br_t rfl (h0 (fun z => ?_)))
    · rw [e] at key; exact key
    · have := (st_lt (List.mem_of_find?_eq_some hb')).1; omega
    · exact List.mem_of_find?_eq_some hb'
    · have := List.find?_some hb'; simpa using this
    · obtain ⟨b, m, k⟩ := z.2 k5
      have := List.find?_eq_none.mp hN b m
      simp [k] at this
theorem xf_fits {post : Int32 → Prop} {u : SX} {n i : Nat} (n60 : n ≤ 60) (hi : i < n) (hb : ∀ j, j < i → xa_blockOf u j = st_h (st_s (xa_kinds u) j))
    (he : ∀ o, o < i → (xa_elseOf u o = -1 ∧ ¬ st_el (xa_kinds u) o i) ∨ ∃ j, j < i ∧ xa_kinds u j = 3 ∧ (st_s (xa_kinds u) j).head? = some o ∧ xa_elseOf u o = nI j)
    (h1 : fm_ok (xa_kinds u) i → post 1) (h0 : ¬ fm_ok (xa_kinds u) i → post 0) : wpX_fitsInto post u (st_h (st_s (xa_kinds u) i)) (nI i) := by
  have ci : (nI i).toNatClampNeg = i := nI_clamp (by omega)
  cases e : st_s (xa_kinds u) i with
  | nil =>
    rw [fm_nil e] at h1 h0
    rw [ux_fitsInto]
    refine ⟨vp_in_nI (by omega) (by decide), nm_r (by rw [ci]) (br_t rfl (br_c h1 h0))⟩
  | cons o r =>
    rw [fm_cons e] at h1 h0
    have ho : o < i := (st_lt (K := xa_kinds u) (i := i) (b := o) (by rw [e]; exact List.mem_cons_self)).1
    have ec : (nI o).toNatClampNeg = o := nI_clamp (by omega)
    have sf : st_sec (xa_kinds u i) → ¬ xa_kinds u i = 0 → ¬ xa_kinds u i = 1 → xa_kinds u o = 6 → wpX_sectionFits (fun r_101 => (((r_101 = 0 → (post 0)) ∧ (¬ r_101 = 0 → (post 1))))) u (nI o) (nI i) := by
      intro hs k0 k1 k6
      refine xs_fits ho (by omega) hb (fun z => br_f (by decide) (h1 ⟨k0, Or.inr (Or.inl ⟨hs, k6, z.1, z.2⟩)⟩)) (fun z => br_t rfl (h0 ?_))
      rintro ⟨_, w | w | w⟩
      · exact k1 w
      · exact z ⟨w.2.2.1, w.2.2.2⟩
      · exact w.2.1 hs
    have f89 : ¬ st_sec (xa_kinds u i) → ¬ xa_kinds u i = 0 → ¬ xa_kinds u i = 1 → ¬ (xa_kinds u o = 6 ∧ o + 1 = i) → cx_fitsInto_89 post (nI o) (xa_kinds u i) u := by
      intro hs k0 k1 k6
      refine xf_89 n60 hi hb he e (fun z => h1 ⟨k0, Or.inr (Or.inr ⟨k1, hs, k6, z.1, z.2⟩)⟩) (fun z => h0 ?_)
      rintro ⟨_, w | w | w⟩
      · exact k1 w
      · exact hs w.1
      · exact z ⟨w.2.2.2.1, w.2.2.2.2⟩
    show wpX_fitsInto post u (nI o) (nI i)
    rw [ux_fitsInto]
    refine ⟨vp_in_nI (by omega) (by decide), nm_r (by rw [ci]) (br_f (ne_m1 (by omega)) (br_c (fun k0 => h0 (fun z => z.1 k0)) (fun k0 => br_c (fun k1 => h1 ⟨k0, Or.inl k1⟩) (fun k1 => ?_))))⟩
    refine xk_sec (fun hs => br_f (by decide) ⟨vp_in_nI (by omega) (by decide), ?_⟩) (fun hs => br_t rfl ⟨vp_in_nI (by omega) (by decide), ?_⟩)
    · rw [ec]
      refine br_c (fun k6 => sf hs k0 k1 k6) (fun k6 => h0 ?_)
      rintro ⟨_, w | w | w⟩
      · exact k1 w
      · exact k6 w.2.1
      · exact w.2.1 hs
    · rw [ec]
      have pm : nI i - 1 = nI (i - 1) := pk_sub (b := 1) (by omega)
      refine br_c (fun k6 => ?_) (fun k6 => f89 hs k0 k1 (fun z => k6 z.1))
      rw [pm, nI_eq (by omega) (by omega)]
      refine br_c (fun q => h0 ?_) (fun q => f89 hs k0 k1 (fun z => q (by omega)))
      rintro ⟨_, w | w | w⟩
      · exact k1 w
      · exact hs w.1
      · exact w.2.2.1 ⟨k6, by omega⟩
