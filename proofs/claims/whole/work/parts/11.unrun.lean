/-! UNSET: the two passes -/
theorem ch_rng {K : Nat → Int32} {n : Nat} (W : st_wf K n) : ∀ d j, j < n → n - j ≤ d → (∀ b, b ∈ st_s K (st_ch K n j) → b ∈ st_s K j) ∧ (j ≤ st_ch K n j ∨ (K (st_ch K n j) = 4 ∧ st_ch K n j ∈ st_s K j)) ∧ (st_s K j ≠ [] → st_s K (st_ch K n j) ≠ []) := by
  obtain ⟨n60, Z, F, W3, W4, W5⟩ := W
  intro d
  induction d with
  | zero => intro j hj h; omega
  | succ d ih =>
    intro j hj h
    by_cases hm : st_mk (K j)
    · obtain ⟨o, r, e, ho, hk, hr⟩ := st_mkhd F hj hm
      by_cases h0 : K o = 0
      · rw [st_ch_0 hj hm e h0]
        exact ⟨fun b hb => hb, Or.inl (Nat.le_refl _), fun z => z⟩
      · have rne : st_s K o ≠ [] := fun z => h0 ((F o (by omega)).mpr z)
        by_cases h4 : K o = 4
        · rw [st_ch_4 hj hm e h4]
          refine ⟨fun b hb => ?_, Or.inr ⟨h4, by rw [e]; exact List.mem_cons_self⟩, fun _ => rne⟩
          rw [e, hr]
          exact List.mem_cons_of_mem _ hb
        · rw [st_ch_s F Z hj hm e h0 h4]
          obtain ⟨a, b, c⟩ := st_next F Z hj (l := []) e h0
          obtain ⟨p, q, s⟩ := ih _ b (by omega)
          rw [c] at p q s
          refine ⟨fun x hx => ?_, ?_, fun _ => s (by rw [hr]; exact rne)⟩
          · rw [e]; exact List.mem_cons_of_mem _ (p x hx)
          · rcases q with q | ⟨q1, q2⟩
            · exact Or.inl (by omega)
            · exact Or.inr ⟨q1, by rw [e]; exact List.mem_cons_of_mem _ q2⟩
    · rw [st_ch_n hj hm]
      exact ⟨fun b hb => hb, Or.inl (Nat.le_refl _), fun z => z⟩
theorem un_i1 {K : Nat → Int32} {n i : Nat} (F : st_F K n) (hi : i < n) (h1 : ¬ K i = 1) : (∀ b, b ∈ st_s K (i + 1) → b = i ∨ b ∈ st_s K i) ∧ st_s K (i + 1) ≠ [] := by
  by_cases h2 : st_op (K i)
  · rw [st_opn h2]
    exact ⟨fun b hb => List.mem_cons.mp hb, List.cons_ne_nil _ _⟩
  · rw [st_oth h1 h2]
    exact ⟨fun b hb => Or.inr hb, fun z => h2 (Or.inl ((F i hi).mpr z))⟩
theorem un_Y_rng {K A C : Nat → Int32} {n i w j o : Nat} (W : st_wf K n) (hi : i < n) (h : un_Y K A C n i w j o) : j < n ∧ i < j ∧ (∀ b, b ∈ st_s K j → b = i ∨ b ∈ st_s K i) ∧ st_s K j ≠ [] ∧ (∀ b, o.testBit b = true → w.testBit b = true) := by
  obtain ⟨n60, Z, F, W3, W4, W5⟩ := id W
  rcases h with ⟨k, ⟨l, hl, hj⟩, ho⟩ | ⟨k, q, hq, hp, hj, ho⟩ | ⟨a1, a2, a3, a4, a5, h | ⟨k, h⟩ | ⟨k, h⟩, ho⟩
  · have lm := List.mem_of_find?_eq_some hl
    have lk : K l = 4 := by have := List.find?_some hl; simpa using this
    obtain ⟨p1, p2, p3, p4⟩ := un_out W hi lm (by rw [lk]; decide)
    have ln := (st_lt lm).1
    rw [hj]
    refine ⟨p2, p1, fun b hb => ?_, ?_, fun b hb => ?_⟩
    · rw [p3] at hb; exact Or.inr (p4 b hb)
    · rw [p3]; exact fun z => absurd ((F l (by omega)).mpr z) (by rw [lk]; decide)
    · rw [ho] at hb; exact un_o_sub hb
  · obtain ⟨r, e, iq, _, er⟩ := un_hdo hp.1
    have n1 : ¬ K q = 1 := by rcases hp.2 with z | z | z | z <;> (rw [z]; decide)
    have nop : ¬ st_op (K q) := by rcases hp.2 with z | z | z | z <;> (rw [z]; decide)
    have nx : q + 1 < n := un_nx W hq (fun z => n1 z.1)
    rw [hj]
    refine ⟨nx, by omega, fun b hb => ?_, ?_, fun b hb => ?_⟩
    · rw [st_oth n1 nop, e] at hb
      rcases List.mem_cons.mp hb with z | z
      · exact Or.inl z
      · rw [er]; exact Or.inr z
    · rw [st_oth n1 nop, e]; exact List.cons_ne_nil _ _
    · rw [ho] at hb
      by_cases k8 : K q = 8
      · rw [if_pos k8] at hb; exact un_o_sub (un_o_sub hb)
      · rw [if_neg k8] at hb; exact un_o_sub hb
  · obtain ⟨p, q⟩ := un_i1 F hi a1
    rw [h]
    exact ⟨un_nx W hi (fun z => a1 z.1), by omega, p, q, fun b hb => by rw [ho] at hb; exact un_o_sub hb⟩
  · rcases h with ⟨e, h1, h3, h2, h4⟩ | ⟨h1, h2⟩
    · obtain ⟨r, ee, iq, _, er⟩ := un_hdo h2
      have n1 : ¬ K e = 1 := by rw [h3]; decide
      have nop : ¬ st_op (K e) := by rw [h3]; decide
      have nx : e + 1 < n := un_nx W h1 (fun z => n1 z.1)
      rw [h4]
      refine ⟨nx, by omega, fun b hb => ?_, ?_, fun b hb => by rw [ho] at hb; exact un_o_sub hb⟩
      · rw [st_oth n1 nop, ee] at hb
        rcases List.mem_cons.mp hb with z | z
        · exact Or.inl z
        · rw [er]; exact Or.inr z
      · rw [st_oth n1 nop, ee]; exact List.cons_ne_nil _ _
    · obtain ⟨p1, p2, p3, p4, p5⟩ := un_opn W hi (Or.inr (Or.inl k))
      obtain ⟨p6, p7⟩ := p5 (by rw [k]; decide)
      rw [h2]
      refine ⟨p6, by omega, fun b hb => ?_, ?_, fun b hb => by rw [ho] at hb; exact un_o_sub hb⟩
      · rw [p7] at hb; exact Or.inr hb
      · rw [p7]; exact fun z => absurd ((F i hi).mpr z) (by rw [k]; decide)
  · obtain ⟨p1, p2, p3, p4, p5⟩ := un_opn W hi (Or.inr (Or.inr (Or.inl k)))
    obtain ⟨p6, p7⟩ := p5 (by rw [k]; decide)
    rw [h]
    refine ⟨p6, by omega, fun b hb => ?_, ?_, fun b hb => by rw [ho] at hb; exact un_o_sub hb⟩
    · rw [p7] at hb; exact Or.inr hb
    · rw [p7]; exact fun z => absurd ((F i hi).mpr z) (by rw [k]; decide)
theorem un_xn_ne {K : Nat → Int32} {n j : Nat} (W : st_wf K n) (hj : j < n) (h : st_s K j ≠ []) : st_s K (un_xn K n j) ≠ [] := by
  obtain ⟨n60, Z, F, W3, W4, W5⟩ := id W
  by_cases c : K j = 3 ∨ st_sec (K j)
  · have hm : st_mk (K j) := c.elim (fun a => Or.inr (Or.inl a)) (fun a => Or.inr (Or.inr a))
    obtain ⟨o, r, e, ho, hk, hr⟩ := st_mkhd F hj hm
    obtain ⟨a1, a2, a3, a4⟩ := st_e_of F Z (l := []) (Nat.le_of_lt hj) e
    have ex : un_xn K n j = st_e K o n := by unfold un_xn; rw [if_pos c, e]
    rw [ex, a4]
    exact List.cons_ne_nil _ _
  · have ex : un_xn K n j = j := by unfold un_xn; rw [if_neg c]
    rw [ex]; exact h
theorem un_X_rng {K A C : Nat → Int32} {n i w m o : Nat} (W : st_wf K n) (hi : i < n) (h : un_X K A C n i w m o) : m < n ∧ i < m ∧ (∀ b, b ∈ st_s K m → b = i ∨ b ∈ st_s K i) ∧ st_s K m ≠ [] ∧ (∀ b, o.testBit b = true → w.testBit b = true) ∧ o = un_o K A C i w := by
  obtain ⟨n60, Z, F, W3, W4, W5⟩ := id W
  have fin : ∀ j, j < n → i < j → (∀ b, b ∈ st_s K j → b = i ∨ b ∈ st_s K i) → st_s K j ≠ [] → un_xn K n j < n ∧ i < un_xn K n j ∧ (∀ b, b ∈ st_s K (un_xn K n j) → b = i ∨ b ∈ st_s K i) ∧ st_s K (un_xn K n j) ≠ [] := by
    intro j hj hij hs hne
    obtain ⟨q1, q2, q3, q4, q5⟩ := un_xn_ok (A := A) (C := C) W hj
    exact ⟨q1, by omega, fun b hb => hs b (q5 b hb), un_xn_ne W hj hne⟩
  have sub : o = un_o K A C i w → ∀ b, o.testBit b = true → w.testBit b = true := fun ho b hb => by rw [ho] at hb; exact un_o_sub hb
  rcases h with ⟨k, ⟨l, hl, hm'⟩, ho⟩ | ⟨k, hmn, hp, ho⟩ | ⟨k, ⟨q, r, e, c⟩, hm', ho⟩ | ⟨a1, a2, a3, a4, a5, h | ⟨k, h⟩ | ⟨k, h⟩, ho⟩
  · have lm := List.mem_of_find?_eq_some hl
    have lk : K l = 4 := by have := List.find?_some hl; simpa using this
    obtain ⟨p1, p2, p3, p4⟩ := un_out W hi lm (by rw [lk]; decide)
    have ln := (st_lt lm).1
    rw [hm']
    obtain ⟨f1, f2, f3, f4⟩ := fin _ p2 p1 (fun b hb => by rw [p3] at hb; exact Or.inr (p4 b hb)) (by rw [p3]; exact fun z => absurd ((F l (by omega)).mpr z) (by rw [lk]; decide))
    exact ⟨f1, f2, f3, f4, sub ho, ho⟩
  · obtain ⟨r, e, iq, _, er⟩ := un_hdo hp.1
    refine ⟨hmn, iq, fun b hb => ?_, by rw [e]; exact List.cons_ne_nil _ _, sub ho, ho⟩
    rw [e] at hb
    rcases List.mem_cons.mp hb with z | z
    · exact Or.inl z
    · rw [er]; exact Or.inr z
  · have k0 : ¬ K q = 0 := by rcases c with z | z <;> (rw [z]; decide)
    have hq := (st_lt (K := K) (i := i) (b := q) (by rw [e]; exact List.mem_cons_self)).1
    have nx : i + 1 < n := un_nx W hi (fun z => by obtain ⟨_, o', r', e', k'⟩ := z; rw [e] at e'; injection e' with x y; rw [x] at k0; exact k0 k')
    have e2 : st_s K (i + 1) = r := by rw [st_end k, e]; rfl
    rw [hm']
    obtain ⟨f1, f2, f3, f4⟩ := fin _ nx (by omega) (fun b hb => by rw [e2] at hb; rw [e]; exact Or.inr (List.mem_cons_of_mem _ hb)) (by rw [e2, ← st_hd e]; exact fun z => k0 ((F q (by omega)).mpr z))
    exact ⟨f1, f2, f3, f4, sub ho, ho⟩
  · obtain ⟨p, q⟩ := un_i1 F hi a1
    rw [h]
    obtain ⟨f1, f2, f3, f4⟩ := fin _ (un_nx W hi (fun z => a1 z.1)) (by omega) p q
    exact ⟨f1, f2, f3, f4, sub ho, ho⟩
  · rcases h with ⟨h1, h3, h2⟩ | ⟨h1, h2⟩
    · obtain ⟨r, ee, iq, _, er⟩ := un_hdo h2
      refine ⟨h1, iq, fun b hb => ?_, by rw [ee]; exact List.cons_ne_nil _ _, sub ho, ho⟩
      rw [ee] at hb
      rcases List.mem_cons.mp hb with z | z
      · exact Or.inl z
      · rw [er]; exact Or.inr z
    · obtain ⟨p1, p2, p3, p4, p5⟩ := un_opn W hi (Or.inr (Or.inl k))
      rw [h2]
      refine ⟨p2, by omega, fun b hb => ?_, by rw [p4]; exact List.cons_ne_nil _ _, sub ho, ho⟩
      rw [p4] at hb
      exact List.mem_cons.mp hb
  · obtain ⟨p1, p2, p3, p4, p5⟩ := un_opn W hi (Or.inr (Or.inr (Or.inl k)))
    obtain ⟨p6, p7⟩ := p5 (by rw [k]; decide)
    rw [h]
    obtain ⟨f1, f2, f3, f4⟩ := fin _ p6 (by omega) (fun b hb => by rw [p7] at hb; exact Or.inr hb) (by rw [p7]; exact fun z => absurd ((F i hi).mpr z) (by rw [k]; decide))
    exact ⟨f1, f2, f3, f4, sub ho, ho⟩
noncomputable def un_bit (P : Prop) (v : Nat) : Nat := @ite Nat P (Classical.propDecidable P) v 0
noncomputable def un_bits (P : Nat → Prop) : Nat := un_bit (P 0) (2 ^ 0) ||| (un_bit (P 1) (2 ^ 1) ||| (un_bit (P 2) (2 ^ 2) ||| (un_bit (P 3) (2 ^ 3) ||| (un_bit (P 4) (2 ^ 4) ||| (un_bit (P 5) (2 ^ 5) ||| un_bit (P 6) (2 ^ 6))))))
theorem un_bit_t {P : Prop} {k b : Nat} : (un_bit P (2 ^ k)).testBit b = true ↔ P ∧ k = b := by
  unfold un_bit
  by_cases h : P
  · rw [if_pos h, Nat.testBit_two_pow]; simp [h]
  · rw [if_neg h]; simp [h]
theorem un_bits_t {P : Nat → Prop} {b : Nat} : (un_bits P).testBit b = true ↔ b < 7 ∧ P b := by
  unfold un_bits
  simp only [Nat.testBit_or, Bool.or_eq_true, un_bit_t]
  constructor
  · rintro (⟨h, e⟩ | ⟨h, e⟩ | ⟨h, e⟩ | ⟨h, e⟩ | ⟨h, e⟩ | ⟨h, e⟩ | ⟨h, e⟩) <;> (subst e; exact ⟨by decide, h⟩)
  · rintro ⟨hb, h⟩
    have : b = 0 ∨ b = 1 ∨ b = 2 ∨ b = 3 ∨ b = 4 ∨ b = 5 ∨ b = 6 := by omega
    rcases this with e | e | e | e | e | e | e <;> (subst e; simp [h])
theorem un_bit_lt {P : Prop} {k : Nat} (hk : k < 7) : un_bit P (2 ^ k) < 128 := by
  unfold un_bit
  split
  · exact Nat.pow_lt_pow_right (by decide) (show k < 7 from hk)
  · decide
theorem un_bits_lt {P : Nat → Prop} : un_bits P < 128 := by
  unfold un_bits
  refine un_or128 (un_bit_lt (by decide)) (un_or128 (un_bit_lt (by decide)) (un_or128 (un_bit_lt (by decide)) (un_or128 (un_bit_lt (by decide)) (un_or128 (un_bit_lt (by decide)) (un_or128 (un_bit_lt (by decide)) (un_bit_lt (by decide)))))))
theorem un_t7 {w b : Nat} (hw : w < 128) (h : w.testBit b = true) : b < 7 := by
  by_cases z : b < 7
  · exact z
  · rw [Nat.testBit_lt_two_pow (Nat.lt_of_lt_of_le hw (Nat.pow_le_pow_right (n := 2) (by decide) (show 7 ≤ b by omega)))] at h
    cases h
theorem un_ext {a c : Nat} (h : ∀ b, a.testBit b = true ↔ c.testBit b = true) : a = c := by
  apply Nat.eq_of_testBit_eq
  intro b
  have := h b
  cases ha : a.testBit b <;> cases hc : c.testBit b <;> simp [ha, hc] at this ⊢
