/-! UNSET: X -/
theorem nx_and (a b : Nat) : nI a &&& nI b = nI (a &&& b) := by
  apply Int32.toBitVec_inj.1
  show BitVec.ofNat 32 a &&& BitVec.ofNat 32 b = BitVec.ofNat 32 (a &&& b)
  apply BitVec.eq_of_getLsbD_eq
  intro i hi
  simp [hi]
theorem nx_or (a b : Nat) : nI a ||| nI b = nI (a ||| b) := by
  apply Int32.toBitVec_inj.1
  show BitVec.ofNat 32 a ||| BitVec.ofNat 32 b = BitVec.ofNat 32 (a ||| b)
  apply BitVec.eq_of_getLsbD_eq
  intro i hi
  simp [hi]
/-- the FUNC line of function f -/
def st_fl (K : Nat → Int32) (f : Nat) : Nat → Nat
  | 0 => 0
  | j + 1 => if K j = 0 ∧ st_f K j = f then j else st_fl K f j
theorem st_fl_eq {K : Nat → Int32} {f j : Nat} (k0 : K j = 0) (hf : st_f K j = f) : ∀ n, j < n → st_fl K f n = j := by
  intro n
  induction n with
  | zero => intro h; omega
  | succ n ih =>
    intro h
    show (if _ then _ else _) = _
    by_cases e : j = n
    · subst e; rw [if_pos ⟨k0, hf⟩]
    · rw [if_neg]
      · exact ih (by omega)
      · rintro ⟨a, b⟩
        have := st_f_lt k0 n (by omega)
        omega
theorem st_fl_ex {K : Nat → Int32} {f : Nat} : ∀ n, f < st_f K n → ∃ j, j < n ∧ K j = 0 ∧ st_f K j = f := by
  intro n
  induction n with
  | zero => intro h; exact absurd h (by show ¬ f < 0; omega)
  | succ n ih =>
    intro h
    by_cases c : f < st_f K n
    · obtain ⟨j, a, b⟩ := ih c
      exact ⟨j, by omega, b⟩
    · by_cases k0 : K n = 0
      · rw [fm_f1 k0] at h
        exact ⟨n, by omega, k0, by omega⟩
      · rw [fm_f0 k0] at h; omega
def un_pf (K A : Nat → Int32) (n f : Nat) : Nat := (A (st_fl K f n)).toNatClampNeg
/-- what the sections of SELECT o read, up to line j -/
def un_sel (K A B : Nat → Int32) (o : Nat) : Nat → Nat
  | 0 => 0
  | j + 1 => un_sel K A B o j ||| (if (st_s K j).head? = some o then (if K j = 7 then un_b (A j) ||| un_b (B j) else if K j = 8 then un_b (B j) else if K j = 29 then un_b (A j) else 0) else 0)
/-- what line i reads -/
def un_r (K A B C : Nat → Int32) (n i : Nat) : Nat :=
  if K i = 2 ∨ K i = 4 ∨ K i = 12 ∨ K i = 18 ∨ K i = 20 ∨ K i = 28 then un_b (A i) else
  if K i = 10 then un_b (A i) ||| un_b (B i) else
  if K i = 11 ∨ K i = 21 then un_b (B i) else
  if ln_go (K i) then (if un_pf K A n (A i).toNatClampNeg = 0 then 0 else if un_pf K A n (A i).toNatClampNeg = 1 then un_b (B i) else un_b (B i) ||| un_b (C i)) else
  if K i = 6 then un_sel K A B i (st_e K i n) else
  if K i = 22 ∨ K i = 23 ∨ K i = 24 ∨ K i = 25 ∨ K i = 26 ∨ K i = 27 then un_b (B i) ||| un_b (C i) else 0
theorem un_sel_lt {K A B : Nat → Int32} {o : Nat} : ∀ j, un_sel K A B o j < 64 := by
  intro j
  induction j with
  | zero => exact (show 0 < 64 by decide)
  | succ j ih =>
    refine un_or64 ih ?_
    split
    · split
      · exact un_or64 (un_b_lt _) (un_b_lt _)
      · split
        · exact un_b_lt _
        · split
          · exact un_b_lt _
          · decide
    · decide
theorem un_r_lt {K A B C : Nat → Int32} {n i : Nat} : un_r K A B C n i < 64 := by
  unfold un_r
  split
  · exact un_b_lt _
  · split
    · exact un_or64 (un_b_lt _) (un_b_lt _)
    · split
      · exact un_b_lt _
      · split
        · split
          · decide
          · split
            · exact un_b_lt _
            · exact un_or64 (un_b_lt _) (un_b_lt _)
        · split
          · exact un_sel_lt _
          · split
            · exact un_or64 (un_b_lt _) (un_b_lt _)
            · decide
theorem un_sel_0 {K A B : Nat → Int32} {o : Nat} : ∀ j, j ≤ o + 1 → un_sel K A B o j = 0 := by
  intro j
  induction j with
  | zero => intro _; rfl
  | succ j ih =>
    intro h
    show un_sel K A B o j ||| _ = 0
    rw [ih (by omega), if_neg]
    · rfl
    · intro z
      obtain ⟨r, e, h1, _⟩ := un_hdo z
      omega
/-- what X knows of the lines once their form is checked -/
def sx_st (u : SX) (n : Nat) : Prop :=
  xa_lineCount u = nI n ∧ st_wf (xa_kinds u) n ∧ 0 < n ∧ (∀ j, j < n → fm_ok (xa_kinds u) j) ∧
  fm_A (xa_kinds u) n (xa_functionCount u) (xa_blockOf u) (xa_endOf u) (xa_elseOf u) (xa_functionLine u) ∧
  (∀ i, i < n → ln_ok (xa_kinds u i) (xa_argA u i) (xa_argB u i) (xa_argC u i)) ∧ (∀ i, i < n → ln_go (xa_kinds u i) → xa_argA u i < xa_functionCount u)
theorem sx_end {u : SX} {n o : Nat} (h : sx_st u n) (ho : o < n) (hk : st_op (xa_kinds u o)) : xa_endOf u o = nI (st_e (xa_kinds u) o n) ∧ o < st_e (xa_kinds u) o n ∧ st_e (xa_kinds u) o n < n := by
  obtain ⟨h1, W, n0, ok, ⟨A1, A2, A3, A4, A5, A6⟩, L, C⟩ := h
  obtain ⟨p1, p2, p3, p4, p5⟩ := un_opn W ho hk
  exact ⟨A2 _ p2 p3 _ _ p4, by omega, p2⟩
theorem xb_bit {post : Int32 → Prop} {u : SX} {x : Int32} (h : post (nI (un_b x))) : wpX_variableBit post u x := by
  rw [ux_variableBit, ux_isVariable]
  by_cases h0 : x < 0
  · unfold un_b at h; rw [if_pos h0] at h
    exact br_t h0 (br_t rfl h)
  · by_cases h6 : (6 : Int32) ≤ x
    · unfold un_b at h; rw [if_neg h0, if_pos h6] at h
      exact br_f h0 (br_t h6 (br_t rfl h))
    · obtain ⟨a, ha, e, eb⟩ := un_b_in h0 h6
      rw [eb] at h
      refine br_f h0 (br_f h6 (br_f (by decide) ?_))
      rw [e, un_shl a ha]; exact h
theorem xb_comp {post : Int32 → Prop} {u : SX} {k : Int32} (h1 : ¬ k < 21 → ¬ 27 < k → post 1) (h0 : (k < 21 ∨ 27 < k) → post 0) : wpX_computes post u k := by
  rw [ux_computes]
  exact br_c (fun a => h0 (Or.inl a)) (fun a => br_c (fun b => h0 (Or.inr b)) (fun b => h1 a b))
theorem comp_rng {k : Int32} : (k = 21 ∨ k = 22 ∨ k = 23 ∨ k = 24 ∨ k = 25 ∨ k = 26 ∨ k = 27) ↔ ¬ k < 21 ∧ ¬ 27 < k := by
  have e : ∀ m : Int32, k = m ↔ k.toInt = m.toInt := fun m => Int32.toInt_inj.symm
  simp only [e, Int32.lt_iff_toInt_lt, show (21 : Int32).toInt = 21 from rfl, show (22 : Int32).toInt = 22 from rfl, show (23 : Int32).toInt = 23 from rfl, show (24 : Int32).toInt = 24 from rfl, show (25 : Int32).toInt = 25 from rfl, show (26 : Int32).toInt = 26 from rfl, show (27 : Int32).toInt = 27 from rfl]
  omega
theorem xr_sel {post : Int32 → Prop} {u : SX} {n o : Nat} (S : sx_st u n) (ho : o < n) (k6 : xa_kinds u o = 6) (h : post (nI (un_sel (xa_kinds u) (xa_argA u) (xa_argB u) o (st_e (xa_kinds u) o n)))) :
    ∀ d j, j + d = st_e (xa_kinds u) o n → o < j → ∀ m, d < m → cx_readBySections_6 post (nI o) u m (nI (un_sel (xa_kinds u) (xa_argA u) (xa_argB u) o j)) (nI j) := by
  obtain ⟨e1, e2, e3⟩ := sx_end S ho (Or.inr (Or.inr (Or.inr k6)))
  obtain ⟨h1, W, n0, ok, ⟨A1, A2, A3, A4, A5, A6⟩, L, C⟩ := S
  have n60 := W.1
  have co : (nI o).toNatClampNeg = o := nI_clamp (by omega)
  intro d
  induction d with
  | zero =>
    intro j hj hoj m hm
    obtain ⟨m, rfl⟩ : ∃ q, m = q + 1 := ⟨m - 1, by omega⟩
    rw [ux_readBySections_6, co, e1]
    have e : j = st_e (xa_kinds u) o n := by omega
    rw [e]
    exact ⟨vp_in_nI (by omega) (by decide), br_t (nI_le (Nat.le_refl _) (by omega)) h⟩
  | succ d ih =>
    intro j hj hoj m hm
    obtain ⟨m, rfl⟩ : ∃ q, m = q + 1 := ⟨m - 1, by omega⟩
    have cj : (nI j).toNatClampNeg = j := nI_clamp (by omega)
    have hd : st_h (st_s (xa_kinds u) j) = nI o ↔ (st_s (xa_kinds u) j).head? = some o := st_hd_iff (fun b m => by have := (st_lt m).1; omega) (by omega)
    have nx := ih (j + 1) (by omega) (by omega) m (by omega)
    have us : un_sel (xa_kinds u) (xa_argA u) (xa_argB u) o (j + 1) = un_sel (xa_kinds u) (xa_argA u) (xa_argB u) o j ||| (if (st_s (xa_kinds u) j).head? = some o then (if xa_kinds u j = 7 then un_b (xa_argA u j) ||| un_b (xa_argB u j) else if xa_kinds u j = 8 then un_b (xa_argB u j) else if xa_kinds u j = 29 then un_b (xa_argA u j) else 0) else 0) := rfl
    rw [us] at nx
    have vj : vp_in (nI j) 60 := vp_in_nI (by omega) (by decide)
    rw [ux_readBySections_6, co, e1, cj, A1 j (by omega), hd]
    refine ⟨vp_in_nI (by omega) (by decide), br_f (nI_ge (by omega) (by omega)) ⟨vj, xb_bit ⟨vj, xb_bit ⟨vj, ?_⟩⟩⟩⟩
    by_cases z : (st_s (xa_kinds u) j).head? = some o
    · rw [if_pos z] at nx
      refine br_t z ⟨vj, ?_⟩
      by_cases k7 : xa_kinds u j = 7
      · rw [if_pos k7] at nx
        refine br_t k7 (nm_r (show _ = nI _ by rw [nx_or, nx_or, Nat.or_assoc]) ?_)
        rw [ux_readBySections_69, cj, A1 j (by omega), hd]
        refine ⟨vj, br_t z ⟨vj, br_f (by rw [k7]; decide) ?_⟩⟩
        rw [ux_readBySections_95, cj, A1 j (by omega), hd]
        exact ⟨vj, br_t z ⟨vj, br_f (by rw [k7]; decide) (nm_r (nI_1 _) nx)⟩⟩
      · rw [if_neg k7] at nx
        refine br_f k7 ?_
        rw [ux_readBySections_69, cj, A1 j (by omega), hd]
        by_cases k8 : xa_kinds u j = 8
        · rw [if_pos k8] at nx
          refine ⟨vj, br_t z ⟨vj, br_t k8 (nm_r (show _ = nI _ by rw [nx_or]) ?_)⟩⟩
          rw [ux_readBySections_95, cj, A1 j (by omega), hd]
          exact ⟨vj, br_t z ⟨vj, br_f (by rw [k8]; decide) (nm_r (nI_1 _) nx)⟩⟩
        · rw [if_neg k8] at nx
          refine ⟨vj, br_t z ⟨vj, br_f k8 ?_⟩⟩
          rw [ux_readBySections_95, cj, A1 j (by omega), hd]
          by_cases k9 : xa_kinds u j = 29
          · rw [if_pos k9] at nx
            exact ⟨vj, br_t z ⟨vj, br_t k9 (nm_r (show _ = nI _ by rw [nx_or]) (nm_r (nI_1 _) nx))⟩⟩
          · rw [if_neg k9, Nat.or_zero] at nx
            exact ⟨vj, br_t z ⟨vj, br_f k9 (nm_r (nI_1 _) nx)⟩⟩
    · rw [if_neg z, Nat.or_zero] at nx
      refine br_f z ?_
      rw [ux_readBySections_69, cj, A1 j (by omega), hd]
      refine ⟨vj, br_f z ?_⟩
      rw [ux_readBySections_95, cj, A1 j (by omega), hd]
      exact ⟨vj, br_f z (nm_r (nI_1 _) nx)⟩
