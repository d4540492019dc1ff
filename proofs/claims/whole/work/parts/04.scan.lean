/-! Y: the scans over the lines -/
theorem yo_t {post : Int32 → Prop} {k : Int32} (h : st_op k) (p : post 1) : wpY_opens post k := by
  unfold wpY_opens
  rcases h with h | h | h | h <;> (subst h; simp [p])
theorem yo_f {post : Int32 → Prop} {k : Int32} (h : ¬ st_op k) (p : post 0) : wpY_opens post k := by
  unfold wpY_opens
  simp only [st_op, not_or] at h
  exact br_f h.1 (br_f h.2.1 (br_f h.2.2.1 (br_f h.2.2.2 p)))
theorem ysec_t {post : Int32 → Prop} {k : Int32} (h : st_sec k) (p : post 1) : wpY_section post k := by
  unfold wpY_section wY_section_12
  rcases h with h | h | h | h <;> (subst h; simp [p])
theorem sec_iff (k : Int32) : st_sec k ↔ (7 ≤ k.toInt ∧ k.toInt ≤ 9) ∨ k.toInt = 29 := by
  have e : ∀ m : Int32, k = m ↔ k.toInt = m.toInt := fun m => Int32.toInt_inj.symm
  simp only [st_sec, e, show (7 : Int32).toInt = 7 from rfl, show (8 : Int32).toInt = 8 from rfl, show (9 : Int32).toInt = 9 from rfl, show (29 : Int32).toInt = 29 from rfl]
  omega
theorem ysec_f {post : Int32 → Prop} {k : Int32} (h : ¬ st_sec k) (p : post 0) : wpY_section post k := by
  rw [sec_iff] at h
  have h29 : ¬ k = 29 := fun z => h (Or.inr (by rw [z]; rfl))
  refine br_c (fun _ => br_f h29 p) (fun a => br_f (fun b => h (Or.inl ?_)) (br_f h29 p))
  rw [Int32.lt_iff_toInt_lt, show (7 : Int32).toInt = 7 from rfl] at a
  rw [Int32.le_iff_toInt_le, show (9 : Int32).toInt = 9 from rfl] at b
  omega
theorem ye_loop {post : Int32 → Prop} {v : SY} {n e o : Nat} (hn : ya_lines v = nI n) (n60 : n ≤ 60) (he : e < n) (h1 : ya_kind v e = 1)
    (W : ∀ i, o < i → i ≤ e → ∃ l, st_s (ya_kind v) i = l ++ o :: st_s (ya_kind v) o) (hs : st_s (ya_kind v) e = o :: st_s (ya_kind v) o) (hp : post (nI e)) :
    ∀ (d i : Nat) (l : List Nat), i + d = e → o < i → st_s (ya_kind v) i = l ++ o :: st_s (ya_kind v) o → ∀ m, d < m → wY_endOf_6 post (ya_lines v) (ya_bad v) (ya_state v) (ya_queued v) (ya_started v) (ya_now v) (ya_clock v) (ya_turn v) (ya_off v) (ya_made v) (ya_printed v) (ya_panicValue v) (ya_kind v) (ya_opA v) (ya_opB v) (ya_opC v) (ya_open v) (ya_seen v) (ya_unset v) (ya_status v) (ya_depth v) (ya_since v) (ya_resume v) (ya_shocked v) (ya_queue v) (ya_until v) (ya_channels v) (ya_pc v) (ya_vars v) (ya_noted v) (ya_noteOf v) (ya_noteB v) (ya_noteC v) (ya_asNote v) (ya_panics v) (ya_panicWith v) (ya_capacity v) (ya_held v) (ya_closed v) (ya_values v) (ya_out v) m (nI l.length) (nI i) := by
  intro d
  induction d with
  | zero =>
    intro i l hi ho hl m hm
    obtain ⟨m, rfl⟩ : ∃ q, m = q + 1 := ⟨m - 1, by omega⟩
    have e1 : i = e := by omega
    subst e1
    have hl0 : l = [] := st_len (hl.symm.trans hs)
    subst hl0
    refine br_f (by rw [hn]; exact nI_ge he (by omega)) ⟨vp_in_nI (by omega) (by decide), ?_⟩
    rw [nI_clamp (by omega), h1]
    refine yo_f (by decide) (br_t rfl ⟨vp_in_nI (by omega) (by decide), br_t rfl (nm_e (br_t rfl hp))⟩)
  | succ d ih =>
    intro i l hi ho hl m hm
    obtain ⟨m, rfl⟩ : ∃ q, m = q + 1 := ⟨m - 1, by omega⟩
    refine br_f (by rw [hn]; exact nI_ge (by omega) (by omega)) ⟨vp_in_nI (by omega) (by decide), ?_⟩
    rw [nI_clamp (by omega)]
    by_cases h2 : st_op (ya_kind v i)
    · refine yo_t h2 (br_f (by decide) (nm_r (nI_1 _) (nm_r (nI_1 _) ?_)))
      exact ih (i + 1) (i :: l) (by omega) (by omega) (by rw [st_opn h2, hl]; rfl) m (by omega)
    · refine yo_f h2 (br_t rfl ⟨vp_in_nI (by omega) (by decide), ?_⟩)
      by_cases h3 : ya_kind v i = 1
      · cases l with
        | nil =>
          obtain ⟨l', hl'⟩ := W (i + 1) (by omega) (by omega)
          rw [st_end h3, hl] at hl'
          exact absurd hl' (fun z => st_nlen z)
        | cons x t =>
          refine br_t h3 (nm_r (pk_m1 _) (br_f (nI_ne0 (Nat.succ_pos _) ?_) (nm_r (nI_1 _) ?_)))
          · have := st_bnd (ya_kind v) i
            rw [hl, List.length_append, List.length_cons] at this
            rw [List.length_cons]
            omega
          · exact ih (i + 1) t (by omega) (by omega) (by rw [st_end h3, hl]; rfl) m (by omega)
      · refine br_f h3 (nm_r (nI_1 _) ?_)
        exact ih (i + 1) l (by omega) (by omega) (by rw [st_oth h3 h2, hl]) m (by omega)
theorem ye_endOf {post : Int32 → Prop} {v : SY} {n e o : Nat} {r : List Nat} (hn : ya_lines v = nI n) (n60 : n ≤ 60) (F : st_F (ya_kind v) n) (he : e < n) (h1 : ya_kind v e = 1)
    (hs : st_s (ya_kind v) e = o :: r) (hp : post (nI e)) : wpY_endOf post v (nI o) := by
  have hr := st_hd hs
  subst hr
  have ho : o < e := (st_lt (K := ya_kind v) (i := e) (b := o) (by rw [hs]; exact List.mem_cons_self)).1
  have W := st_back (st_F1 F) (j := e) (l := []) (by omega) hs
  obtain ⟨l, hl⟩ := W (o + 1) (by omega) (by omega)
  have hk : st_op (ya_kind v o) := (st_lt (K := ya_kind v) (i := e) (b := o) (by rw [hs]; exact List.mem_cons_self)).2
  have key := ye_loop (v := v) hn n60 he h1 W hs hp (e - (o + 1)) (o + 1) [] (by omega) (by omega) (st_opn hk) (e + 1) (by omega)
  obtain ⟨f_lines, f_bad, f_state, f_queued, f_started, f_now, f_clock, f_turn, f_off, f_made, f_printed, f_panicValue, a_kind, a_opA, a_opB, a_opC, a_open, a_seen, a_unset, a_status, a_depth, a_since, a_resume, a_shocked, a_queue, a_until, a_channels, a_pc, a_vars, a_noted, a_noteOf, a_noteB, a_noteC, a_asNote, a_panics, a_panicWith, a_capacity, a_held, a_closed, a_values, a_out⟩ := v
  exact nm_r (nI_1 _) ⟨_, key⟩
theorem yop_l2 {post : Int32 → Prop} {v : SY} (hp : post (nI 0)) : ∀ i, (∀ i', 0 < i' → i' ≤ i → ¬ ya_kind v i' = 0) → i < 60 → ∀ m, i < m → wY_opener_57 post (ya_lines v) (ya_bad v) (ya_state v) (ya_queued v) (ya_started v) (ya_now v) (ya_clock v) (ya_turn v) (ya_off v) (ya_made v) (ya_printed v) (ya_panicValue v) (ya_kind v) (ya_opA v) (ya_opB v) (ya_opC v) (ya_open v) (ya_seen v) (ya_unset v) (ya_status v) (ya_depth v) (ya_since v) (ya_resume v) (ya_shocked v) (ya_queue v) (ya_until v) (ya_channels v) (ya_pc v) (ya_vars v) (ya_noted v) (ya_noteOf v) (ya_noteB v) (ya_noteC v) (ya_asNote v) (ya_panics v) (ya_panicWith v) (ya_capacity v) (ya_held v) (ya_closed v) (ya_values v) (ya_out v) m (nI i) := by
  intro i
  induction i with
  | zero =>
    intro _ _ m hm
    obtain ⟨m, rfl⟩ : ∃ q, m = q + 1 := ⟨m - 1, by omega⟩
    exact br_t (by decide) hp
  | succ i ih =>
    intro hk hi m hm
    obtain ⟨m, rfl⟩ : ∃ q, m = q + 1 := ⟨m - 1, by omega⟩
    refine br_f (nI_nle (by omega) (by omega)) ⟨vp_in_nI hi (by decide), ?_⟩
    rw [nI_clamp (by omega)]
    exact br_f (hk (i + 1) (by omega) (by omega)) (nm_r (pk_m1 _) (ih (fun i' a b => hk i' a (by omega)) (by omega) m (by omega)))
theorem yop_l1 {post : Int32 → Prop} {v : SY} {n j o : Nat} {r : List Nat} (n60 : n ≤ 60) (F : st_F (ya_kind v) n) (hj : j < n) (hs : st_s (ya_kind v) j = o :: r) (hp : post (nI o)) :
    ∀ (i : Nat) (l : List Nat), i < j → st_s (ya_kind v) (i + 1) = l ++ o :: r → ∀ m, i < m → wY_opener_6 post (nI j) (ya_lines v) (ya_bad v) (ya_state v) (ya_queued v) (ya_started v) (ya_now v) (ya_clock v) (ya_turn v) (ya_off v) (ya_made v) (ya_printed v) (ya_panicValue v) (ya_kind v) (ya_opA v) (ya_opB v) (ya_opC v) (ya_open v) (ya_seen v) (ya_unset v) (ya_status v) (ya_depth v) (ya_since v) (ya_resume v) (ya_shocked v) (ya_queue v) (ya_until v) (ya_channels v) (ya_pc v) (ya_vars v) (ya_noted v) (ya_noteOf v) (ya_noteB v) (ya_noteC v) (ya_asNote v) (ya_panics v) (ya_panicWith v) (ya_capacity v) (ya_held v) (ya_closed v) (ya_values v) (ya_out v) m (nI l.length) (nI i) := by
  intro i
  induction i with
  | zero =>
    intro l hi hl m hm
    obtain ⟨m, rfl⟩ : ∃ q, m = q + 1 := ⟨m - 1, by omega⟩
    have k0 : ya_kind v 0 = 0 := (F 0 (by omega)).mpr rfl
    rw [st_opn (Or.inl k0)] at hl
    have ho : o = 0 := by
      cases l with
      | nil => injection hl with a b; exact a.symm
      | cons x t => injection hl with a b; cases t <;> cases b
    subst ho
    refine br_t (by decide) (nm_r (pk_sub (b := 1) (by omega)) ⟨j, yop_l2 hp (j - 1) ?_ (by omega) j (by omega)⟩)
    intro i' a b z
    obtain ⟨l', hl'⟩ := st_back (st_F1 F) (j := j) (l := []) (by omega) hs (i' + 1) (by omega) (by omega)
    rw [st_opn (Or.inl z), (F i' (by omega)).mp z] at hl'
    cases l' with
    | nil => injection hl' with c d; omega
    | cons x t => injection hl' with c d; cases t <;> cases d
  | succ i ih =>
    intro l hi hl m hm
    obtain ⟨m, rfl⟩ : ∃ q, m = q + 1 := ⟨m - 1, by omega⟩
    refine br_f (nI_nle (by omega) (by omega)) ⟨vp_in_nI (by omega) (by decide), ?_⟩
    rw [nI_clamp (by omega)]
    by_cases h1 : ya_kind v (i + 1) = 1
    · refine br_t h1 (nm_r (nI_1 _) (nm_r (pk_m1 _) ?_))
      rw [st_end h1] at hl
      cases e2 : st_s (ya_kind v) (i + 1) with
      | nil => exact absurd e2 (st_F1 F (i + 1) (by omega) h1)
      | cons x t =>
        rw [e2] at hl
        exact ih (x :: l) (by omega) (by rw [e2, show t = l ++ o :: r from hl]; rfl) m (by omega)
    · refine br_f h1 ⟨vp_in_nI (by omega) (by decide), ?_⟩
      by_cases h2 : st_op (ya_kind v (i + 1))
      · refine yo_t h2 (br_f (by decide) ?_)
        rw [st_opn h2] at hl
        cases l with
        | nil =>
          injection hl with a b
          subst a
          exact nm_e (br_t rfl hp)
        | cons x t =>
          injection hl with a b
          have b : st_s (ya_kind v) (i + 1) = t ++ o :: r := b
          refine nm_r (pk_m1 _) (br_f (nI_ne0 (Nat.succ_pos _) ?_) (nm_r (pk_m1 _) (ih t (by omega) b m (by omega))))
          have := st_bnd (ya_kind v) (i + 1)
          rw [b, List.length_append] at this
          rw [List.length_cons]
          omega
      · rw [st_oth h1 h2] at hl
        exact yo_f h2 (br_t rfl (nm_r (pk_m1 _) (ih l (by omega) hl m (by omega))))
theorem ye_opener {post : Int32 → Prop} {v : SY} {n j o : Nat} {r : List Nat} (n60 : n ≤ 60) (F : st_F (ya_kind v) n) (hj : j < n) (hs : st_s (ya_kind v) j = o :: r) (hp : post (nI o)) : wpY_opener post v (nI j) := by
  have j0 : 0 < j := by
    cases j with
    | zero => cases hs
    | succ j => omega
  have key := yop_l1 (v := v) n60 F hj hs hp (j - 1) [] (by omega) (by rw [show j - 1 + 1 = j by omega]; exact hs) j (by omega)
  obtain ⟨f_lines, f_bad, f_state, f_queued, f_started, f_now, f_clock, f_turn, f_off, f_made, f_printed, f_panicValue, a_kind, a_opA, a_opB, a_opC, a_open, a_seen, a_unset, a_status, a_depth, a_since, a_resume, a_shocked, a_queue, a_until, a_channels, a_pc, a_vars, a_noted, a_noteOf, a_noteB, a_noteC, a_asNote, a_panics, a_panicWith, a_capacity, a_held, a_closed, a_values, a_out⟩ := v
  exact nm_r (pk_sub (b := 1) (by omega)) ⟨_, key⟩
/-- a line that begins a part of block o -/
def st_P (K : Nat → Int32) (o j : Nat) : Prop := (st_s K j).head? = some o ∧ (K j = 3 ∨ st_sec (K j))
theorem yp_loop {post : Int32 → Prop} {v : SY} {n e o : Nat} {r : List Nat} (n60 : n ≤ 60) (he : e < n) (W : ∀ i, o < i → i ≤ e → ∃ l, st_s (ya_kind v) i = l ++ o :: r) :
    ∀ (d j : Nat) (l : List Nat), j + d = e → o < j → st_s (ya_kind v) j = l ++ o :: r →
    (∀ j', j ≤ j' → j' < e → st_P (ya_kind v) o j' → (∀ i, j ≤ i → i < j' → ¬ st_P (ya_kind v) o i) → post (nI j')) →
    ((∀ i, j ≤ i → i < e → ¬ st_P (ya_kind v) o i) → post (-1)) → ∀ m, d < m → wY_part_14 post (nI e) (ya_lines v) (ya_bad v) (ya_state v) (ya_queued v) (ya_started v) (ya_now v) (ya_clock v) (ya_turn v) (ya_off v) (ya_made v) (ya_printed v) (ya_panicValue v) (ya_kind v) (ya_opA v) (ya_opB v) (ya_opC v) (ya_open v) (ya_seen v) (ya_unset v) (ya_status v) (ya_depth v) (ya_since v) (ya_resume v) (ya_shocked v) (ya_queue v) (ya_until v) (ya_channels v) (ya_pc v) (ya_vars v) (ya_noted v) (ya_noteOf v) (ya_noteB v) (ya_noteC v) (ya_asNote v) (ya_panics v) (ya_panicWith v) (ya_capacity v) (ya_held v) (ya_closed v) (ya_values v) (ya_out v) m (nI l.length) (nI j) := by
  intro d
  induction d with
  | zero =>
    intro j l hj ho hl hS hN m hm
    obtain ⟨m, rfl⟩ : ∃ q, m = q + 1 := ⟨m - 1, by omega⟩
    exact br_t (nI_le (by omega) (by omega)) (hN (fun i a b => by omega))
  | succ d ih =>
    intro j l hj ho hl hS hN m hm
    obtain ⟨m, rfl⟩ : ∃ q, m = q + 1 := ⟨m - 1, by omega⟩
    refine br_f (nI_ge (by omega) (by omega)) ⟨vp_in_nI (by omega) (by decide), ?_⟩
    rw [nI_clamp (by omega)]
    have next : ∀ (l' : List Nat), ¬ st_P (ya_kind v) o j → st_s (ya_kind v) (j + 1) = l' ++ o :: r → wY_part_14 post (nI e) (ya_lines v) (ya_bad v) (ya_state v) (ya_queued v) (ya_started v) (ya_now v) (ya_clock v) (ya_turn v) (ya_off v) (ya_made v) (ya_printed v) (ya_panicValue v) (ya_kind v) (ya_opA v) (ya_opB v) (ya_opC v) (ya_open v) (ya_seen v) (ya_unset v) (ya_status v) (ya_depth v) (ya_since v) (ya_resume v) (ya_shocked v) (ya_queue v) (ya_until v) (ya_channels v) (ya_pc v) (ya_vars v) (ya_noted v) (ya_noteOf v) (ya_noteB v) (ya_noteC v) (ya_asNote v) (ya_panics v) (ya_panicWith v) (ya_capacity v) (ya_held v) (ya_closed v) (ya_values v) (ya_out v) m (nI l'.length) (nI (j + 1)) := by
      intro l' hP hl'
      refine ih (j + 1) l' (by omega) (by omega) hl' (fun j' a b c g => hS j' (by omega) b c (fun i p q => ?_)) (fun g => hN (fun i p q => ?_)) m (by omega)
      · by_cases z : i = j
        · subst z; exact hP
        · exact g i (by omega) q
      · by_cases z : i = j
        · subst z; exact hP
        · exact g i (by omega) q
    have notP : ¬ (ya_kind v j = 3 ∨ st_sec (ya_kind v j)) → ¬ st_P (ya_kind v) o j := fun z y => z y.2
    by_cases h2 : st_op (ya_kind v j)
    · refine yo_t h2 (br_f (by decide) (nm_r (nI_1 _) (nm_r (nI_1 _) (next (j :: l) (notP ?_) (by rw [st_opn h2, hl]; rfl)))))
      rcases h2 with h | h | h | h <;> (rw [h]; decide)
    · refine yo_f h2 (br_t rfl ⟨vp_in_nI (by omega) (by decide), ?_⟩)
      by_cases h1 : ya_kind v j = 1
      · refine br_t h1 ?_
        cases l with
        | nil =>
          obtain ⟨l', hl'⟩ := W (j + 1) (by omega) (by omega)
          rw [st_end h1, hl] at hl'
          exact absurd hl' (fun z => st_nlen z)
        | cons x t => exact nm_r (pk_m1 _) (nm_r (nI_1 _) (next t (notP (by rw [h1]; decide)) (by rw [st_end h1, hl]; rfl)))
      · refine br_f h1 ?_
        cases l with
        | nil =>
          refine br_t rfl ⟨vp_in_nI (by omega) (by decide), ?_⟩
          have hh : (st_s (ya_kind v) j).head? = some o := by rw [hl]; rfl
          by_cases h3 : ya_kind v j = 3
          · exact br_t h3 (hS j (Nat.le_refl j) (by omega) ⟨hh, Or.inl h3⟩ (fun i a b => by omega))
          · refine br_f h3 ⟨vp_in_nI (by omega) (by decide), ?_⟩
            by_cases h4 : st_sec (ya_kind v j)
            · exact ysec_t h4 (br_f (by decide) (hS j (Nat.le_refl j) (by omega) ⟨hh, Or.inr h4⟩ (fun i a b => by omega)))
            · exact ysec_f h4 (br_t rfl (nm_r (nI_1 _) (next [] (notP (fun z => z.elim h3 h4)) (by rw [st_oth h1 h2, hl]))))
        | cons x t =>
          have lb := st_bnd (ya_kind v) j
          rw [hl, List.length_append] at lb
          refine br_f (nI_ne0 (by rw [List.length_cons]; omega) (by omega)) (nm_r (nI_1 _) (next (x :: t) ?_ (by rw [st_oth h1 h2, hl])))
          intro z
          have z1 := z.1
          rw [hl] at z1
          have z2 : x = o := by simpa using z1
          subst z2
          have z3 := st_sfx (K := ya_kind v) (i := j) (b := x) (l := []) hl
          have z4 := st_sfx (K := ya_kind v) (i := j) (b := x) (l := x :: t) hl
          rw [z4] at z3
          exact st_nlen z3
theorem ye_part {post : Int32 → Prop} {v : SY} {n e o i : Nat} {r : List Nat} (hn : ya_lines v = nI n) (n60 : n ≤ 60) (F : st_F (ya_kind v) n) (he : e < n) (h1 : ya_kind v e = 1)
    (hs : st_s (ya_kind v) e = o :: r) (hi : o ≤ i) (hie : i < e) (hsi : st_s (ya_kind v) (i + 1) = o :: r)
    (hS : ∀ j', i < j' → j' < e → st_P (ya_kind v) o j' → (∀ k, i < k → k < j' → ¬ st_P (ya_kind v) o k) → post (nI j'))
    (hN : (∀ k, i < k → k < e → ¬ st_P (ya_kind v) o k) → post (-1)) : wpY_part post v (nI o) (nI i) := by
  have W := st_back (st_F1 F) (j := e) (l := []) (by omega) hs
  have key := yp_loop (v := v) n60 he W (e - (i + 1)) (i + 1) [] (by omega) (by omega) hsi (fun j' a b c g => hS j' (by omega) b c (fun k p q => g k (by omega) q)) (fun g => hN (fun k p q => g k (by omega) q)) e (by omega)
  have key2 := ye_endOf (v := v) (post := fun r_1 => ∀ x, x = nI i + 1 → ∃ m, wY_part_14 post r_1 (ya_lines v) (ya_bad v) (ya_state v) (ya_queued v) (ya_started v) (ya_now v) (ya_clock v) (ya_turn v) (ya_off v) (ya_made v) (ya_printed v) (ya_panicValue v) (ya_kind v) (ya_opA v) (ya_opB v) (ya_opC v) (ya_open v) (ya_seen v) (ya_unset v) (ya_status v) (ya_depth v) (ya_since v) (ya_resume v) (ya_shocked v) (ya_queue v) (ya_until v) (ya_channels v) (ya_pc v) (ya_vars v) (ya_noted v) (ya_noteOf v) (ya_noteB v) (ya_noteC v) (ya_asNote v) (ya_panics v) (ya_panicWith v) (ya_capacity v) (ya_held v) (ya_closed v) (ya_values v) (ya_out v) m 0 x) hn n60 F he h1 hs (nm_r (nI_1 _) ⟨_, key⟩)
  obtain ⟨f_lines, f_bad, f_state, f_queued, f_started, f_now, f_clock, f_turn, f_off, f_made, f_printed, f_panicValue, a_kind, a_opA, a_opB, a_opC, a_open, a_seen, a_unset, a_status, a_depth, a_since, a_resume, a_shocked, a_queue, a_until, a_channels, a_pc, a_vars, a_noted, a_noteOf, a_noteB, a_noteC, a_asNote, a_panics, a_panicWith, a_capacity, a_held, a_closed, a_values, a_out⟩ := v
  exact key2
theorem ys_40 {post : Int32 → Prop} {J : Int32 → Int32 → Prop} {v : SY} {n j o c : Nat} {r : List Nat} (hn : ya_lines v = nI n) (n60 : n ≤ 60) (F : st_F (ya_kind v) n) (Z : st_s (ya_kind v) n = []) (hj : j < n) (e : st_s (ya_kind v) j = o :: r)
    (h0 : ya_kind v o = 0 → post (nI j)) (h4 : ya_kind v o = 4 → post (nI o)) (hs : ¬ ya_kind v o = 0 → ¬ ya_kind v o = 4 → J (nI (st_e (ya_kind v) o n + 1)) (nI (c + 1))) : wY_settle_40 post J (nI j) (nI c) (ya_lines v) (ya_bad v) (ya_state v) (ya_queued v) (ya_started v) (ya_now v) (ya_clock v) (ya_turn v) (ya_off v) (ya_made v) (ya_printed v) (ya_panicValue v) (ya_kind v) (ya_opA v) (ya_opB v) (ya_opC v) (ya_open v) (ya_seen v) (ya_unset v) (ya_status v) (ya_depth v) (ya_since v) (ya_resume v) (ya_shocked v) (ya_queue v) (ya_until v) (ya_channels v) (ya_pc v) (ya_vars v) (ya_noted v) (ya_noteOf v) (ya_noteB v) (ya_noteC v) (ya_asNote v) (ya_panics v) (ya_panicWith v) (ya_capacity v) (ya_held v) (ya_closed v) (ya_values v) (ya_out v) := by
  have ho : o < j := (st_lt (K := ya_kind v) (i := j) (b := o) (by rw [e]; exact List.mem_cons_self)).1
  obtain ⟨p1, p2, p3, p4⟩ := st_e_of F Z (l := []) (Nat.le_of_lt hj) e
  have key : wpY_opener (fun r_5 => (vp_in r_5 60 ∧ ((((ya_kind v r_5.toNatClampNeg) = 0 → (post (nI j))) ∧ (¬ (ya_kind v r_5.toNatClampNeg) = 0 → (vp_in r_5 60 ∧ ((((ya_kind v r_5.toNatClampNeg) = 4 → (post r_5)) ∧ (¬ (ya_kind v r_5.toNatClampNeg) = 4 → (wpY_endOf (fun r_51 => (∀ x, x = r_51 + 1 → ∀ y, y = nI c + 1 → (J x y))) v r_5)))))))))) v (nI j) := by
    refine ye_opener (v := v) n60 F hj e ⟨vp_in_nI (by omega) (by decide), ?_⟩
    rw [nI_clamp (by omega)]
    refine br_c h0 (fun n0 => ⟨vp_in_nI (by omega) (by decide), br_c h4 (fun n4 => ?_)⟩)
    exact ye_endOf (v := v) hn n60 F p2 p3 p4 (nm_r (nI_1 _) (nm_r (nI_1 _) (hs n0 n4)))
  obtain ⟨f_lines, f_bad, f_state, f_queued, f_started, f_now, f_clock, f_turn, f_off, f_made, f_printed, f_panicValue, a_kind, a_opA, a_opB, a_opC, a_open, a_seen, a_unset, a_status, a_depth, a_since, a_resume, a_shocked, a_queue, a_until, a_channels, a_pc, a_vars, a_noted, a_noteOf, a_noteB, a_noteC, a_asNote, a_panics, a_panicWith, a_capacity, a_held, a_closed, a_values, a_out⟩ := v
  exact key
theorem ys_loop {post : Int32 → Prop} {v : SY} {n : Nat} (hn : ya_lines v = nI n) (n60 : n ≤ 60) (F : st_F (ya_kind v) n) (Z : st_s (ya_kind v) n = []) : ∀ d j c, j < n → n - j ≤ d → c + d ≤ 120 → post (nI (st_ch (ya_kind v) n j)) → ∀ m, d < m → wY_settle_4 post (ya_lines v) (ya_bad v) (ya_state v) (ya_queued v) (ya_started v) (ya_now v) (ya_clock v) (ya_turn v) (ya_off v) (ya_made v) (ya_printed v) (ya_panicValue v) (ya_kind v) (ya_opA v) (ya_opB v) (ya_opC v) (ya_open v) (ya_seen v) (ya_unset v) (ya_status v) (ya_depth v) (ya_since v) (ya_resume v) (ya_shocked v) (ya_queue v) (ya_until v) (ya_channels v) (ya_pc v) (ya_vars v) (ya_noted v) (ya_noteOf v) (ya_noteB v) (ya_noteC v) (ya_asNote v) (ya_panics v) (ya_panicWith v) (ya_capacity v) (ya_held v) (ya_closed v) (ya_values v) (ya_out v) m (nI j) (nI c) := by
  intro d
  induction d with
  | zero => intro j c hj h; omega
  | succ d ih =>
    intro j c hj h hc hp m hm
    obtain ⟨m, rfl⟩ : ∃ q, m = q + 1 := ⟨m - 1, by omega⟩
    refine br_f (nI_ge (b := 120) (by omega) (by omega)) ⟨vp_in_nI (by omega) (by decide), ?_⟩
    rw [nI_clamp (by omega)]
    have s40 : st_mk (ya_kind v j) → wY_settle_40 post (wY_settle_4 post (ya_lines v) (ya_bad v) (ya_state v) (ya_queued v) (ya_started v) (ya_now v) (ya_clock v) (ya_turn v) (ya_off v) (ya_made v) (ya_printed v) (ya_panicValue v) (ya_kind v) (ya_opA v) (ya_opB v) (ya_opC v) (ya_open v) (ya_seen v) (ya_unset v) (ya_status v) (ya_depth v) (ya_since v) (ya_resume v) (ya_shocked v) (ya_queue v) (ya_until v) (ya_channels v) (ya_pc v) (ya_vars v) (ya_noted v) (ya_noteOf v) (ya_noteB v) (ya_noteC v) (ya_asNote v) (ya_panics v) (ya_panicWith v) (ya_capacity v) (ya_held v) (ya_closed v) (ya_values v) (ya_out v) m) (nI j) (nI c) (ya_lines v) (ya_bad v) (ya_state v) (ya_queued v) (ya_started v) (ya_now v) (ya_clock v) (ya_turn v) (ya_off v) (ya_made v) (ya_printed v) (ya_panicValue v) (ya_kind v) (ya_opA v) (ya_opB v) (ya_opC v) (ya_open v) (ya_seen v) (ya_unset v) (ya_status v) (ya_depth v) (ya_since v) (ya_resume v) (ya_shocked v) (ya_queue v) (ya_until v) (ya_channels v) (ya_pc v) (ya_vars v) (ya_noted v) (ya_noteOf v) (ya_noteB v) (ya_noteC v) (ya_asNote v) (ya_panics v) (ya_panicWith v) (ya_capacity v) (ya_held v) (ya_closed v) (ya_values v) (ya_out v) := by
      intro hk
      obtain ⟨o, r, e, ho, hop, hr⟩ := st_mkhd F hj hk
      refine ys_40 (v := v) hn n60 F Z hj e (fun h0 => ?_) (fun h4 => ?_) (fun h0 h4 => ?_)
      · rw [st_ch_0 hj hk e h0] at hp; exact hp
      · rw [st_ch_4 hj hk e h4] at hp; exact hp
      · rw [st_ch_s F Z hj hk e h0 h4] at hp
        obtain ⟨a, b, _⟩ := st_next F Z hj (l := []) e h0
        exact ih _ _ b (by omega) (by omega) hp m (by omega)
    refine nm_e ?_
    by_cases h1 : ya_kind v j = 1
    · exact br_t h1 (s40 (Or.inl h1))
    · refine br_f h1 ?_
      by_cases h3 : ya_kind v j = 3
      · exact br_t h3 (s40 (Or.inr (Or.inl h3)))
      · refine br_f h3 ?_
        by_cases h4 : st_sec (ya_kind v j)
        · exact ysec_t h4 (br_f (by decide) (s40 (Or.inr (Or.inr h4))))
        · rw [st_ch_n hj (fun z => z.elim h1 (fun z => z.elim h3 h4))] at hp
          exact ysec_f h4 (br_t rfl hp)
theorem ye_settle {post : Int32 → Prop} {v : SY} {n j : Nat} (hn : ya_lines v = nI n) (W : st_wf (ya_kind v) n) (hj : j < n) (hp : post (nI (st_ch (ya_kind v) n j))) : wpY_settle post v (nI j) := by
  obtain ⟨n60, Z, F, _⟩ := W
  have key := ys_loop (v := v) hn n60 F Z 60 j 0 hj (by omega) (by omega) hp 61 (by omega)
  obtain ⟨f_lines, f_bad, f_state, f_queued, f_started, f_now, f_clock, f_turn, f_off, f_made, f_printed, f_panicValue, a_kind, a_opA, a_opB, a_opC, a_open, a_seen, a_unset, a_status, a_depth, a_since, a_resume, a_shocked, a_queue, a_until, a_channels, a_pc, a_vars, a_noted, a_noteOf, a_noteB, a_noteC, a_asNote, a_panics, a_panicWith, a_capacity, a_held, a_closed, a_values, a_out⟩ := v
  exact ⟨_, key⟩
