/-! UNSET: X's nodes against Y's -/
theorem un_opn {K : Nat → Int32} {n i : Nat} (W : st_wf K n) (hi : i < n) (h : st_op (K i)) : i + 1 ≤ st_e K i n ∧ st_e K i n < n ∧ K (st_e K i n) = 1 ∧ st_s K (st_e K i n) = i :: st_s K i ∧ (¬ K i = 0 → st_e K i n + 1 < n ∧ st_s K (st_e K i n + 1) = st_s K i) := by
  obtain ⟨n60, Z, F, _⟩ := W
  have e := st_opn h
  obtain ⟨a, b, c, d⟩ := st_e_of F Z (l := []) (i := i + 1) (by omega) e
  refine ⟨a, b, c, d, fun k0 => ?_⟩
  have e2 : st_s K (st_e K i n + 1) = st_s K i := by rw [st_end c, d]; rfl
  refine ⟨?_, e2⟩
  by_cases z : st_e K i n + 1 = n
  · rw [z, Z] at e2
    exact absurd ((F i hi).mpr e2.symm) k0
  · omega
/-- a block around a line: what is behind its END -/
theorem un_out {K : Nat → Int32} {n i l : Nat} (W : st_wf K n) (hi : i < n) (hl : l ∈ st_s K i) (k0 : ¬ K l = 0) : i < st_e K l n + 1 ∧ st_e K l n + 1 < n ∧ st_s K (st_e K l n + 1) = st_s K l ∧ (∀ b, b ∈ st_s K l → b ∈ st_s K i) := by
  obtain ⟨n60, Z, F, _⟩ := W
  obtain ⟨x, y, e⟩ := List.append_of_mem hl
  obtain ⟨a, b, c⟩ := st_next F Z hi e k0
  have := st_sfx e
  refine ⟨a, b, by rw [c, this], fun q hq => ?_⟩
  rw [this] at hq
  rw [e]
  exact List.mem_append_right _ (List.mem_cons_of_mem _ hq)
theorem un_s_0 {K A C : Nat → Int32} {i : Nat} (h : ¬ ln_set (K i)) : un_s K A C i = 0 := by
  unfold un_s
  rw [if_neg (fun z => h (z.elim Or.inl (fun z => Or.inr (Or.inl z)))), if_neg h]
theorem un_sim {K A C : Nat → Int32} {n i w t b : Nat} (W : st_wf K n) (hi : i < n) (hm : ¬ st_mk (K i)) :
    (∃ m o, m < n ∧ un_X K A C n i w m o ∧ un_xt K n m = t ∧ (un_xo K A C m o).testBit b = true) ↔ (∃ j o, un_Y K A C n i w j o ∧ st_ch K n j = t ∧ o.testBit b = true) := by
  have n1 : ¬ K i = 1 := fun z => hm (Or.inl z)
  have nx : i + 1 < n := un_nx W hi (fun z => n1 z.1)
  obtain ⟨n60, Z, F, W3, W4, W5⟩ := id W
  constructor
  · rintro ⟨m, o, hmn, h, ht, hb⟩
    rcases h with ⟨k, ⟨l, hl, hm'⟩, ho⟩ | ⟨k, _, hp, ho⟩ | ⟨k, _⟩ | ⟨a1, a2, a3, a4, a5, h | ⟨k, h⟩ | ⟨k, h⟩, ho⟩
    · have lm := List.mem_of_find?_eq_some hl
      have lk : K l = 4 := by have := List.find?_some hl; simpa using this
      obtain ⟨p1, p2, _⟩ := un_out W hi lm (by rw [lk]; decide)
      obtain ⟨q1, q2, q3, _⟩ := un_xn_ok (A := A) (C := C) W p2
      rw [hm'] at ht hb
      rw [q2] at ht
      rw [q3] at hb
      exact ⟨_, o, Or.inl ⟨k, ⟨l, hl, rfl⟩, ho⟩, ht, hb⟩
    · refine ⟨m + 1, _, Or.inr (Or.inl ⟨k, m, hmn, hp, rfl, rfl⟩), ?_, ?_⟩
      · unfold un_xt at ht
        rw [if_pos (Or.inr hp.2)] at ht
        exact ht
      · unfold un_xo at hb
        rw [ho] at hb
        exact hb
    · exact absurd k n1
    · obtain ⟨q1, q2, q3, _⟩ := un_xn_ok (A := A) (C := C) W nx
      rw [h] at ht hb
      rw [q2] at ht
      rw [q3] at hb
      exact ⟨i + 1, o, Or.inr (Or.inr ⟨a1, a2, a3, a4, a5, Or.inl rfl, ho⟩), ht, hb⟩
    · rcases h with ⟨h1, h3, h2⟩ | ⟨h1, h2⟩
      · refine ⟨m + 1, o, Or.inr (Or.inr ⟨a1, a2, a3, a4, a5, Or.inr (Or.inl ⟨k, Or.inl ⟨m, h1, h3, h2, rfl⟩⟩), ho⟩), ?_, ?_⟩
        · unfold un_xt at ht
          rw [if_pos (Or.inl h3)] at ht
          exact ht
        · unfold un_xo at hb
          rw [if_neg (by rw [h3]; decide)] at hb
          exact hb
      · obtain ⟨p1, p2, p3, p4, p5⟩ := un_opn W hi (Or.inr (Or.inl k))
        refine ⟨st_e K i n + 1, o, Or.inr (Or.inr ⟨a1, a2, a3, a4, a5, Or.inr (Or.inl ⟨k, Or.inr ⟨h1, rfl⟩⟩), ho⟩), ?_, ?_⟩
        · rw [h2] at ht
          unfold un_xt at ht
          rw [if_neg (by rw [p3]; decide), st_ch_s F Z p2 (Or.inl p3) p4 (by rw [k]; decide) (by rw [k]; decide)] at ht
          exact ht
        · rw [h2] at hb
          unfold un_xo at hb
          rw [if_neg (by rw [p3]; decide)] at hb
          exact hb
    · obtain ⟨p1, p2, p3, p4, p5⟩ := un_opn W hi (Or.inr (Or.inr (Or.inl k)))
      obtain ⟨q1, q2, q3, _⟩ := un_xn_ok (A := A) (C := C) W (p5 (by rw [k]; decide)).1
      rw [h] at ht hb
      rw [q2] at ht
      rw [q3] at hb
      exact ⟨_, o, Or.inr (Or.inr ⟨a1, a2, a3, a4, a5, Or.inr (Or.inr ⟨k, rfl⟩), ho⟩), ht, hb⟩
  · rintro ⟨j, o, h, ht, hb⟩
    rcases h with ⟨k, ⟨l, hl, hj⟩, ho⟩ | ⟨k, q, hq, hp, hj, ho⟩ | ⟨a1, a2, a3, a4, a5, h | ⟨k, h⟩ | ⟨k, h⟩, ho⟩
    · have lm := List.mem_of_find?_eq_some hl
      have lk : K l = 4 := by have := List.find?_some hl; simpa using this
      obtain ⟨p1, p2, _⟩ := un_out W hi lm (by rw [lk]; decide)
      obtain ⟨q1, q2, q3, _⟩ := un_xn_ok (A := A) (C := C) W p2
      exact ⟨_, o, q1, Or.inl ⟨k, ⟨l, hl, rfl⟩, ho⟩, by rw [q2, ← hj]; exact ht, by rw [q3]; exact hb⟩
    · refine ⟨q, un_o K A C i w, hq, Or.inr (Or.inl ⟨k, hq, hp, rfl⟩), ?_, ?_⟩
      · unfold un_xt
        rw [if_pos (Or.inr hp.2), ← hj]
        exact ht
      · unfold un_xo
        rw [ho] at hb
        exact hb
    · obtain ⟨q1, q2, q3, _⟩ := un_xn_ok (A := A) (C := C) W nx
      exact ⟨_, o, q1, Or.inr (Or.inr (Or.inr ⟨a1, a2, a3, a4, a5, Or.inl rfl, ho⟩)), by rw [q2, ← h]; exact ht, by rw [q3]; exact hb⟩
    · rcases h with ⟨e, h1, h3, h2, h4⟩ | ⟨h1, h2⟩
      · refine ⟨e, o, h1, Or.inr (Or.inr (Or.inr ⟨a1, a2, a3, a4, a5, Or.inr (Or.inl ⟨k, Or.inl ⟨h1, h3, h2⟩⟩), ho⟩)), ?_, ?_⟩
        · unfold un_xt
          rw [if_pos (Or.inl h3), ← h4]
          exact ht
        · unfold un_xo
          rw [if_neg (by rw [h3]; decide)]
          exact hb
      · obtain ⟨p1, p2, p3, p4, p5⟩ := un_opn W hi (Or.inr (Or.inl k))
        refine ⟨st_e K i n, o, p2, Or.inr (Or.inr (Or.inr ⟨a1, a2, a3, a4, a5, Or.inr (Or.inl ⟨k, Or.inr ⟨h1, rfl⟩⟩), ho⟩)), ?_, ?_⟩
        · unfold un_xt
          rw [if_neg (by rw [p3]; decide), st_ch_s F Z p2 (Or.inl p3) p4 (by rw [k]; decide) (by rw [k]; decide), ← h2]
          exact ht
        · unfold un_xo
          rw [if_neg (by rw [p3]; decide)]
          exact hb
    · obtain ⟨p1, p2, p3, p4, p5⟩ := un_opn W hi (Or.inr (Or.inr (Or.inl k)))
      obtain ⟨q1, q2, q3, _⟩ := un_xn_ok (A := A) (C := C) W (p5 (by rw [k]; decide)).1
      exact ⟨_, o, q1, Or.inr (Or.inr (Or.inr ⟨a1, a2, a3, a4, a5, Or.inr (Or.inr ⟨k, rfl⟩), ho⟩)), by rw [q2, ← h]; exact ht, by rw [q3]; exact hb⟩
/-- a mark: X hands on what lay there -/
theorem un_mark {K A C : Nat → Int32} {n i w t b : Nat} (W : st_wf K n) (hi : i < n) (hm : st_mk (K i)) (hw : w < 128) (hit : i < t) :
    (∃ m o, m < n ∧ un_X K A C n i w m o ∧ un_xt K n m = t ∧ (un_xo K A C m o).testBit b = true) ↔ (un_xt K n i = t ∧ (un_xo K A C i w).testBit b = true) := by
  obtain ⟨n60, Z, F, W3, W4, W5⟩ := id W
  obtain ⟨q, r, e, hq, hop, hr⟩ := st_mkhd F hi hm
  by_cases k1 : K i = 1
  · have e1 : st_e K q n = i := st_e_eq F hi k1 e
    have s0 : un_o K A C i w = w := un_o_0 (un_s_0 (by rw [k1]; decide)) hw
    have xo : un_xo K A C i w = w := by unfold un_xo; rw [if_neg (by rw [k1]; decide)]
    have xt : un_xt K n i = st_ch K n i := by unfold un_xt; rw [if_neg (by rw [k1]; decide)]
    rw [xo, xt]
    by_cases c : K q = 2 ∨ K q = 6
    · have k0 : ¬ K q = 0 := by rcases c with k | k <;> (rw [k]; decide)
      have k4 : ¬ K q = 4 := by rcases c with k | k <;> (rw [k]; decide)
      rw [st_ch_s F Z hi hm e k0 k4, e1]
      have nx : i + 1 < n := un_nx W hi (fun z => by obtain ⟨_, o', r', e', k'⟩ := z; rw [e] at e'; injection e' with x y; rw [x] at k0; exact k0 k')
      obtain ⟨q1, q2, q3, _⟩ := un_xn_ok (A := A) (C := C) W nx
      constructor
      · rintro ⟨m, o, hmn, h, ht, hb⟩
        rcases h with ⟨k, _⟩ | ⟨k, _⟩ | ⟨_, _, hm', ho⟩ | ⟨a1, _⟩
        · rw [k1] at k; exact absurd k (by decide)
        · rw [k1] at k; exact absurd k (by decide)
        · rw [hm', q2] at ht
          rw [hm', q3, ho, s0] at hb
          exact ⟨ht, hb⟩
        · exact absurd k1 a1
      · rintro ⟨ht, hb⟩
        exact ⟨_, w, q1, Or.inr (Or.inr (Or.inl ⟨k1, ⟨q, r, e, c⟩, rfl, s0.symm⟩)), by rw [q2]; exact ht, by rw [q3]; exact hb⟩
    · constructor
      · rintro ⟨m, o, hmn, h, ht, hb⟩
        rcases h with ⟨k, _⟩ | ⟨k, _⟩ | ⟨_, ⟨q', r', e', c'⟩, _⟩ | ⟨a1, _⟩
        · rw [k1] at k; exact absurd k (by decide)
        · rw [k1] at k; exact absurd k (by decide)
        · rw [e] at e'; injection e' with x y; rw [← x] at c'; exact absurd c' c
        · exact absurd k1 a1
      · rintro ⟨ht, hb⟩
        exfalso
        rcases hop with k | k | k | k
        · rw [st_ch_0 hi hm e k] at ht; omega
        · exact c (Or.inl k)
        · rw [st_ch_4 hi hm e k] at ht; omega
        · exact c (Or.inr k)
  · have h3 : K i = 3 ∨ st_sec (K i) := hm.elim (fun z => absurd z k1) id
    have xt : un_xt K n i = st_ch K n (i + 1) := by unfold un_xt; rw [if_pos h3]
    have nx : i + 1 < n := un_nx W hi (fun z => k1 z.1)
    obtain ⟨q1, q2, q3, _⟩ := un_xn_ok (A := A) (C := C) W nx
    have xo : un_xo K A C i w = un_o K A C i w := by
      unfold un_xo
      by_cases k8 : K i = 8
      · rw [if_pos k8]
      · rw [if_neg k8, un_o_0 (un_s_0 ?_) hw]
        rcases h3 with k | k | k | k | k
        · rw [k]; decide
        · rw [k]; decide
        · exact absurd k k8
        · rw [k]; decide
        · rw [k]; decide
    have nk : ¬ K i = 5 ∧ ¬ K i = 6 ∧ ¬ K i = 17 ∧ ¬ K i = 18 ∧ ¬ K i = 2 ∧ ¬ K i = 4 := by
      rcases h3 with k | k | k | k | k <;> (rw [k]; decide)
    rw [xt, xo]
    constructor
    · rintro ⟨m, o, hmn, h, ht, hb⟩
      rcases h with ⟨k, _⟩ | ⟨k, _⟩ | ⟨k, _⟩ | ⟨_, _, _, _, _, h | ⟨k, _⟩ | ⟨k, _⟩, ho⟩
      · exact absurd k nk.1
      · exact absurd k nk.2.1
      · exact absurd k k1
      · rw [h, q2] at ht
        rw [h, q3, ho] at hb
        exact ⟨ht, hb⟩
      · exact absurd k nk.2.2.2.2.1
      · exact absurd k nk.2.2.2.2.2
    · rintro ⟨ht, hb⟩
      exact ⟨_, un_o K A C i w, q1, Or.inr (Or.inr (Or.inr ⟨k1, nk.1, nk.2.1, nk.2.2.1, nk.2.2.2.1, Or.inl rfl, rfl⟩)), by rw [q2]; exact ht, by rw [q3]; exact hb⟩
