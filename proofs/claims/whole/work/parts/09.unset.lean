/-! UNSET: the pure side. A value w below 128: 0 is 'not reached', 64 + m is 'reached, m may be unset' -/
def un_b (x : Int32) : Nat := if x < 0 then 0 else if (6 : Int32) ≤ x then 0 else 2 ^ x.toNatClampNeg
theorem un_b_in {x : Int32} (h0 : ¬ x < 0) (h6 : ¬ (6 : Int32) ≤ x) : ∃ a, a < 6 ∧ x = nI a ∧ un_b x = 2 ^ a := by
  obtain ⟨a, ha, rfl⟩ := nI_of h0
  have h : a < 6 := by
    by_cases z : a < 6
    · exact z
    · exact absurd (nI_le (a := 6) (by omega) ha) h6
  refine ⟨a, h, rfl, ?_⟩
  unfold un_b
  rw [if_neg h0, if_neg h6, nI_clamp ha]
theorem un_b_nI {a : Nat} (h : a < 6) : un_b (nI a) = 2 ^ a := by
  unfold un_b
  rw [if_neg (nI_pos (by omega)), if_neg (show ¬ (6 : Int32) ≤ nI a from nI_ge (b := 6) h (by decide)), nI_clamp (by omega)]
theorem un_p6 : ∀ a, a < 6 → 2 ^ a < 64 := by decide
theorem un_b_lt (x : Int32) : un_b x < 64 := by
  by_cases h0 : x < 0
  · unfold un_b; rw [if_pos h0]; decide
  · by_cases h6 : (6 : Int32) ≤ x
    · unfold un_b; rw [if_neg h0, if_pos h6]; decide
    · obtain ⟨a, ha, _, e⟩ := un_b_in h0 h6
      rw [e]; exact un_p6 a ha
theorem un_shl : ∀ a, a < 6 → (1 : Int32) <<< (nI a &&& 31) = nI (2 ^ a) := by decide
def un_s (K A C : Nat → Int32) (i : Nat) : Nat := if K i = 8 ∨ K i = 11 then un_b (A i) ||| un_b (C i) else if ln_set (K i) then un_b (A i) else 0
theorem un_or64 {a b : Nat} (ha : a < 64) (hb : b < 64) : a ||| b < 64 := Nat.or_lt_two_pow (n := 6) ha hb
theorem un_or128 {a b : Nat} (ha : a < 128) (hb : b < 128) : a ||| b < 128 := Nat.or_lt_two_pow (n := 7) ha hb
theorem un_s_lt {K A C : Nat → Int32} {i : Nat} : un_s K A C i < 64 := by
  unfold un_s
  split
  · exact un_or64 (un_b_lt _) (un_b_lt _)
  · split
    · exact un_b_lt _
    · decide
def un_o (K A C : Nat → Int32) (i w : Nat) : Nat := w &&& (127 - un_s K A C i)
theorem un_o_lt {K A C : Nat → Int32} {i w : Nat} : un_o K A C i w < 128 := by
  unfold un_o
  exact Nat.lt_of_le_of_lt Nat.and_le_right (by omega)
theorem un_o_sub {K A C : Nat → Int32} {i w b : Nat} (h : (un_o K A C i w).testBit b = true) : w.testBit b = true := by
  unfold un_o at h
  rw [Nat.testBit_and] at h
  exact (Bool.and_eq_true_iff.mp h).1
theorem un_o_or {K A C : Nat → Int32} {i w o b : Nat} : (un_o K A C i (w ||| o)).testBit b = true ↔ (un_o K A C i w).testBit b = true ∨ (un_o K A C i o).testBit b = true := by
  unfold un_o
  simp only [Nat.testBit_and, Nat.testBit_or, Bool.and_eq_true, Bool.or_eq_true]
  constructor
  · rintro ⟨h | h, k⟩
    · exact Or.inl ⟨h, k⟩
    · exact Or.inr ⟨h, k⟩
  · rintro (⟨h, k⟩ | ⟨h, k⟩)
    · exact ⟨Or.inl h, k⟩
    · exact ⟨Or.inr h, k⟩
theorem un_o_0 {K A C : Nat → Int32} {i w : Nat} (h : un_s K A C i = 0) (hw : w < 128) : un_o K A C i w = w := by
  unfold un_o
  rw [h]
  exact Nat.and_two_pow_sub_one_of_lt_two_pow (n := 7) hw
def un_pt (K : Nat → Int32) (i q : Nat) : Prop := (st_s K q).head? = some i ∧ st_sec (K q)
/-- where an IF goes when its value is 0 -/
def un_ot (K : Nat → Int32) (n i j : Nat) : Prop := (∃ e, e < n ∧ K e = 3 ∧ (st_s K e).head? = some i ∧ j = e + 1) ∨ (¬ st_el K i n ∧ j = st_e K i n + 1)
def un_oe (K : Nat → Int32) (n i m : Nat) : Prop := (m < n ∧ K m = 3 ∧ (st_s K m).head? = some i) ∨ (¬ st_el K i n ∧ m = st_e K i n)
/-- Y: what line i passes on, and where -/
def un_Y (K A C : Nat → Int32) (n i w j o : Nat) : Prop :=
  (K i = 5 ∧ (∃ l, (st_s K i).find? (fun b => K b == 4) = some l ∧ j = st_e K l n + 1) ∧ o = un_o K A C i w) ∨
  (K i = 6 ∧ ∃ q, q < n ∧ un_pt K i q ∧ j = q + 1 ∧ o = (if K q = 8 then un_o K A C q (un_o K A C i w) else un_o K A C i w)) ∨
  (¬ K i = 1 ∧ ¬ K i = 5 ∧ ¬ K i = 6 ∧ ¬ K i = 17 ∧ ¬ K i = 18 ∧ (j = i + 1 ∨ (K i = 2 ∧ un_ot K n i j) ∨ (K i = 4 ∧ j = st_e K i n + 1)) ∧ o = un_o K A C i w)
def un_xn (K : Nat → Int32) (n j : Nat) : Nat := if K j = 3 ∨ st_sec (K j) then (match st_s K j with
  | [] => j
  | o :: _ => st_e K o n) else j
/-- X: what line i passes on, and where -/
def un_X (K A C : Nat → Int32) (n i w m o : Nat) : Prop :=
  (K i = 5 ∧ (∃ l, (st_s K i).find? (fun b => K b == 4) = some l ∧ m = un_xn K n (st_e K l n + 1)) ∧ o = un_o K A C i w) ∨
  (K i = 6 ∧ m < n ∧ un_pt K i m ∧ o = un_o K A C i w) ∨
  (K i = 1 ∧ (∃ q r, st_s K i = q :: r ∧ (K q = 2 ∨ K q = 6)) ∧ m = un_xn K n (i + 1) ∧ o = un_o K A C i w) ∨
  (¬ K i = 1 ∧ ¬ K i = 5 ∧ ¬ K i = 6 ∧ ¬ K i = 17 ∧ ¬ K i = 18 ∧ (m = un_xn K n (i + 1) ∨ (K i = 2 ∧ un_oe K n i m) ∨ (K i = 4 ∧ m = un_xn K n (st_e K i n + 1))) ∧ o = un_o K A C i w)
/-- where the value of X's node m belongs, and how much of it -/
def un_xt (K : Nat → Int32) (n m : Nat) : Nat := if K m = 3 ∨ st_sec (K m) then st_ch K n (m + 1) else st_ch K n m
def un_xo (K A C : Nat → Int32) (m w : Nat) : Nat := if K m = 8 then un_o K A C m w else w
theorem un_xo_or {K A C : Nat → Int32} {m w o b : Nat} : (un_xo K A C m (w ||| o)).testBit b = true ↔ (un_xo K A C m w).testBit b = true ∨ (un_xo K A C m o).testBit b = true := by
  unfold un_xo
  split
  · exact un_o_or
  · rw [Nat.testBit_or, Bool.or_eq_true]
theorem un_hdo {K : Nat → Int32} {i q : Nat} (h : (st_s K q).head? = some i) : ∃ r, st_s K q = i :: r ∧ i < q ∧ st_op (K i) ∧ st_s K i = r := by
  cases e : st_s K q with
  | nil => rw [e] at h; cases h
  | cons x t =>
    rw [e] at h
    have : x = i := by simpa using h
    subst this
    have := st_lt (K := K) (i := q) (b := x) (by rw [e]; exact List.mem_cons_self)
    exact ⟨t, rfl, this.1, this.2, st_hd e⟩
/-- a line inside a block has a next line -/
theorem un_nx {K : Nat → Int32} {n i : Nat} (W : st_wf K n) (hi : i < n) (h : ¬ (K i = 1 ∧ ∃ o r, st_s K i = o :: r ∧ K o = 0)) : i + 1 < n := by
  obtain ⟨n60, Z, F, _⟩ := W
  by_cases z : i + 1 = n
  · exfalso
    rw [← z] at Z
    by_cases k1 : K i = 1
    · rw [st_end k1] at Z
      cases e : st_s K i with
      | nil => exact st_F1 F i hi k1 e
      | cons o r =>
        rw [e] at Z
        have hr : r = [] := Z
        subst hr
        have ho := st_lt (K := K) (i := i) (b := o) (by rw [e]; exact List.mem_cons_self)
        exact h ⟨k1, o, [], e, (F o (by omega)).mpr (st_hd e)⟩
    · by_cases k2 : st_op (K i)
      · rw [st_opn k2] at Z; cases Z
      · rw [st_oth k1 k2] at Z
        exact k2 (Or.inl ((F i hi).mpr Z))
  · omega
/-- X's node for a target delivers where Y goes on -/
theorem un_xn_ok {K A C : Nat → Int32} {n j : Nat} (W : st_wf K n) (hj : j < n) : un_xn K n j < n ∧ un_xt K n (un_xn K n j) = st_ch K n j ∧ (∀ o, un_xo K A C (un_xn K n j) o = o) ∧ j ≤ un_xn K n j ∧ (∀ b, b ∈ st_s K (un_xn K n j) → b ∈ st_s K j) := by
  obtain ⟨n60, Z, F, W3, W4, W5⟩ := W
  by_cases h : K j = 3 ∨ st_sec (K j)
  · have hm : st_mk (K j) := h.elim (fun a => Or.inr (Or.inl a)) (fun a => Or.inr (Or.inr a))
    obtain ⟨o, r, e, ho, hk, hr⟩ := st_mkhd F hj hm
    have ko : K o = 2 ∨ K o = 6 := by
      rcases h with a | a
      · obtain ⟨o', r', e', k⟩ := W3 j hj a
        rw [e] at e'; injection e' with x y; rw [← x] at k; exact Or.inl k
      · obtain ⟨o', r', e', k⟩ := W4 j hj a
        rw [e] at e'; injection e' with x y; rw [← x] at k; exact Or.inr k
    have k0 : ¬ K o = 0 := by rcases ko with k | k <;> (rw [k]; decide)
    have k4 : ¬ K o = 4 := by rcases ko with k | k <;> (rw [k]; decide)
    obtain ⟨a1, a2, a3, a4⟩ := st_e_of F Z (l := []) (Nat.le_of_lt hj) e
    have ex : un_xn K n j = st_e K o n := by unfold un_xn; rw [if_pos h, e]
    rw [ex]
    have m1 : st_mk (K (st_e K o n)) := Or.inl a3
    refine ⟨a2, ?_, ?_, a1, fun b hb => by rw [a4] at hb; rw [e]; exact hb⟩
    · unfold un_xt
      rw [if_neg (by rw [a3]; decide), st_ch_s F Z a2 m1 a4 k0 k4, st_ch_s F Z hj hm e k0 k4]
    · intro w
      unfold un_xo
      rw [if_neg (by rw [a3]; decide)]
  · have ex : un_xn K n j = j := by unfold un_xn; rw [if_neg h]
    rw [ex]
    refine ⟨hj, ?_, ?_, Nat.le_refl _, fun b hb => hb⟩
    · unfold un_xt; rw [if_neg h]
    · intro w
      unfold un_xo
      rw [if_neg (fun z => h (Or.inr (by rw [z]; decide)))]
