/-! taking a line -/
theorem rg_lt {x : Int32} {N : Nat} (hN : N < 2 ^ 31) (h0 : ¬ x < 0) (h : ¬ nI N ≤ x) : ∃ p, p < N ∧ x = nI p := by
  obtain ⟨a, ha, rfl⟩ := nI_of h0
  refine ⟨a, ?_, rfl⟩
  by_cases z : a < N
  · exact z
  · exact absurd (nI_le (by omega) ha) h
theorem rg_le {x : Int32} {N : Nat} (hN : N + 1 < 2 ^ 31) (h0 : ¬ x < 0) (h : ¬ nI N < x) : ∃ p, p < N + 1 ∧ x = nI p := by
  obtain ⟨a, ha, rfl⟩ := nI_of h0
  refine ⟨a, ?_, rfl⟩
  by_cases z : a < N + 1
  · exact z
  · exact absurd (nI_lt (by omega) ha) h
theorem xk_var {post : Int32 → Prop} {u : SX} {x : Int32} (h1 : (∃ p, p < 6 ∧ x = nI p) → post 1) (h0 : ¬ (∃ p, p < 6 ∧ x = nI p) → post 0) : wpX_isVariable post u x := by
  rw [ux_isVariable]
  refine br_c (fun a => h0 ?_) (fun a => br_c (fun b => h0 ?_) (fun b => h1 (rg_lt (N := 6) (by decide) a b)))
  · rintro ⟨p, hp, rfl⟩; exact nI_pos (by omega) a
  · rintro ⟨p, hp, rfl⟩; exact nI_ge (b := 6) hp (by decide) b
theorem lk_0 {k a b c : Int32} (hk : ∃ q, q < 30 ∧ k = nI q) (e : k = 0) : ln_ok k a b c ↔ ∃ p, p < 3 ∧ a = nI p := by
  subst e
  exact ⟨fun h => h.2.1 rfl, fun h => ⟨hk, fun _ => h, fun z => absurd z (by decide), fun z => absurd z (by decide), fun z => absurd z (by decide), fun z => absurd z (by decide)⟩⟩
theorem lk_8 {k a b c : Int32} (hk : ∃ q, q < 30 ∧ k = nI q) (e : k = 8 ∨ k = 11) : ln_ok k a b c ↔ (∃ p, p < 6 ∧ a = nI p) ∧ ∃ p, p < 6 ∧ c = nI p := by
  have s : ln_set k := e.elim Or.inl (fun z => Or.inr (Or.inl z))
  have n1 : ¬ k = 0 ∧ ¬ k = 13 ∧ ¬ ln_go k := by rcases e with z | z <;> (rw [z]; decide)
  exact ⟨fun h => ⟨h.2.2.1 s, h.2.2.2.1 e⟩, fun h => ⟨hk, fun z => absurd z n1.1, fun _ => h.1, fun _ => h.2, fun z => absurd z n1.2.1, fun z => absurd z n1.2.2⟩⟩
theorem lk_13 {k a b c : Int32} (hk : ∃ q, q < 30 ∧ k = nI q) (e : k = 13) : ln_ok k a b c ↔ (∃ p, p < 6 ∧ a = nI p) ∧ ∃ p, p < 4 ∧ b = nI p := by
  subst e
  exact ⟨fun h => ⟨h.2.2.1 (by decide), h.2.2.2.2.1 rfl⟩, fun h => ⟨hk, fun z => absurd z (by decide), fun _ => h.1, fun z => absurd z (by decide), fun _ => h.2, fun z => absurd z (by decide)⟩⟩
theorem lk_14 {k a b c : Int32} (hk : ∃ q, q < 30 ∧ k = nI q) (e : ln_go k) : ln_ok k a b c ↔ ∃ p, p < 30 ∧ a = nI p := by
  have n1 : ¬ k = 0 ∧ ¬ k = 13 ∧ ¬ ln_set k ∧ ¬ (k = 8 ∨ k = 11) := by rcases e with z | z | z <;> (rw [z]; decide)
  exact ⟨fun h => h.2.2.2.2.2 e, fun h => ⟨hk, fun z => absurd z n1.1, fun z => absurd z n1.2.2.1, fun z => absurd z n1.2.2.2, fun z => absurd z n1.2.1, fun _ => h⟩⟩
theorem lk_s {k a b c : Int32} (hk : ∃ q, q < 30 ∧ k = nI q) (s : ln_set k) (n8 : ¬ (k = 8 ∨ k = 11)) (n13 : ¬ k = 13) : ln_ok k a b c ↔ ∃ p, p < 6 ∧ a = nI p := by
  have n1 : ¬ k = 0 ∧ ¬ ln_go k := by rcases s with z | z | z | z | z | z | z | z | z | z | z <;> (rw [z]; decide)
  exact ⟨fun h => h.2.2.1 s, fun h => ⟨hk, fun z => absurd z n1.1, fun _ => h, fun z => absurd z n8, fun z => absurd z n13, fun z => absurd z n1.2⟩⟩
theorem lk_n {k a b c : Int32} (hk : ∃ q, q < 30 ∧ k = nI q) (n0 : ¬ k = 0) (s : ¬ ln_set k) (g : ¬ ln_go k) : ln_ok k a b c :=
  ⟨hk, fun z => absurd z n0, fun z => absurd z s, fun z => absurd (z.elim Or.inl (fun w => Or.inr (Or.inl w))) s, fun z => absurd (Or.inr (Or.inr (Or.inl z))) s, fun z => absurd z g⟩
theorem xl_args {post : Int32 → Prop} {u : SX} {k a b c : Int32} (hk : ∃ q, q < 30 ∧ k = nI q) (h1 : ln_ok k a b c → post 1) (h0 : ¬ ln_ok k a b c → post 0) : wpX_argumentsFit post u k a b c := by
  have d179 : ¬ k = 0 → ¬ (k = 8 ∨ k = 11) → ¬ k = 13 → ¬ ln_go k → ¬ k = 19 → cx_argumentsFit_179 post k a u := by
    intro n0 n8 n13 ng n19
    rw [ux_argumentsFit_179]
    refine xb_comp (fun b1 b2 => br_f (by decide) ?_) (fun b => br_t rfl (h1 (lk_n hk n0 ?_ ng)))
    · have s : ln_set k := Or.inr (Or.inr (Or.inr (Or.inr (comp_rng.mpr ⟨b1, b2⟩))))
      have e := lk_s (a := a) (b := b) (c := c) hk s n8 n13
      exact xk_var (fun z => br_f (by decide) (h1 (e.mpr z))) (fun z => br_t rfl (h0 (fun w => z (e.mp w))))
    · rintro (z | z | z | z | z)
      · exact n8 (Or.inl z)
      · exact n8 (Or.inr z)
      · exact n13 z
      · exact n19 z
      · have := comp_rng.mp z; exact b.elim this.1 this.2
  have dk : ∀ q : Int32, k = q → ¬ q = 0 → ¬ (q = 8 ∨ q = 11) → ¬ q = 13 → ¬ ln_go q → ¬ q = 19 → cx_argumentsFit_179 post k a u := by
    intro q e; subst e; exact d179
  have d111 : k = 8 ∨ k = 11 → cx_argumentsFit_111 post a c u := by
    intro e
    have e := lk_8 (a := a) (b := b) (c := c) hk e
    rw [ux_argumentsFit_111]
    exact xk_var (fun z => br_f (by decide) (xk_var (fun w => br_f (by decide) (h1 (e.mpr ⟨z, w⟩))) (fun w => br_t rfl (h0 (fun q => w (e.mp q).2))))) (fun z => br_t rfl (h0 (fun q => z (e.mp q).1)))
  have d157 : ln_go k → cx_argumentsFit_157 post a u := by
    intro e
    have e := lk_14 (a := a) (b := b) (c := c) hk e
    rw [ux_argumentsFit_157]
    refine br_c (fun z => h0 (fun q => ?_)) (fun z => br_c (fun w => h0 (fun q => ?_)) (fun w => h1 (e.mpr (rg_lt (N := 30) (by decide) z w))))
    · obtain ⟨p, hp, rfl⟩ := e.mp q; exact nI_pos (by omega) z
    · obtain ⟨p, hp, rfl⟩ := e.mp q; exact nI_ge (b := 30) hp (by decide) w
  obtain ⟨q, hq, eq⟩ := id hk
  rw [ux_argumentsFit]
  refine br_f (by rw [eq]; exact nI_pos (by omega)) (br_c (fun z => ?_) (fun _ => br_c (fun k0 => ?_) (fun _ => br_c (fun e => dk 1 e (by decide) (by decide) (by decide) (by decide) (by decide)) (fun _ => br_c (fun e => dk 2 e (by decide) (by decide) (by decide) (by decide) (by decide)) (fun _ => br_c (fun e => dk 3 e (by decide) (by decide) (by decide) (by decide) (by decide)) (fun _ => br_c (fun e => dk 4 e (by decide) (by decide) (by decide) (by decide) (by decide)) (fun _ =>
    br_c (fun e => dk 5 e (by decide) (by decide) (by decide) (by decide) (by decide)) (fun _ => br_c (fun e => dk 6 e (by decide) (by decide) (by decide) (by decide) (by decide)) (fun _ => br_c (fun e => dk 7 e (by decide) (by decide) (by decide) (by decide) (by decide)) (fun _ => br_c (fun e => d111 (Or.inl e)) (fun _ => br_c (fun e => dk 9 e (by decide) (by decide) (by decide) (by decide) (by decide)) (fun _ => br_c (fun e => dk 10 e (by decide) (by decide) (by decide) (by decide) (by decide)) (fun _ =>
    br_c (fun e => d111 (Or.inr e)) (fun _ => br_c (fun e => dk 12 e (by decide) (by decide) (by decide) (by decide) (by decide)) (fun _ => br_c (fun k13 => ?_) (fun _ => br_c (fun e => d157 (Or.inl e)) (fun _ => br_c (fun e => d157 (Or.inr (Or.inl e))) (fun _ => br_c (fun e => d157 (Or.inr (Or.inr e))) (fun _ =>
    br_c (fun e => dk 17 e (by decide) (by decide) (by decide) (by decide) (by decide)) (fun _ => br_c (fun e => dk 18 e (by decide) (by decide) (by decide) (by decide) (by decide)) (fun _ => br_c (fun k19 => ?_) (fun _ => True.intro))))))))))))))))))))))
  · have ne : ∀ c : Nat, c ≤ 19 → ¬ k = nI c := by
      intro c hc w
      rw [w] at z
      have := (nI_ltI (a := 19) (by decide) (by omega)).mp z
      omega
    exact d179 (ne 0 (by omega)) (fun w => w.elim (ne 8 (by omega)) (ne 11 (by omega))) (ne 13 (by omega)) (fun w => w.elim (ne 14 (by omega)) (fun w => w.elim (ne 15 (by omega)) (ne 16 (by omega)))) (ne 19 (by omega))
  · have e := lk_0 (a := a) (b := b) (c := c) hk k0
    refine br_c (fun z => h0 (fun q => ?_)) (fun z => br_c (fun w => h0 (fun q => ?_)) (fun w => h1 (e.mpr (rg_le (N := 2) (by decide) z w))))
    · obtain ⟨p, hp, rfl⟩ := e.mp q; exact nI_pos (by omega) z
    · obtain ⟨p, hp, rfl⟩ := e.mp q; exact nI_nlt (b := 2) (a := 2) (Nat.le_refl _) (by decide) (Int32.lt_of_lt_of_le w (nI_le (b := 2) (by omega) (by decide)))
  · have e := lk_13 (a := a) (b := b) (c := c) hk k13
    refine xk_var (fun z => br_f (by decide) (br_c (fun w => h0 (fun q => ?_)) (fun w => br_c (fun w2 => h0 (fun q => ?_)) (fun w2 => h1 (e.mpr ⟨z, rg_le (N := 3) (by decide) w w2⟩))))) (fun z => br_t rfl (h0 (fun q => z (e.mp q).1)))
    · obtain ⟨p, hp, rfl⟩ := (e.mp q).2; exact nI_pos (by omega) w
    · obtain ⟨p, hp, rfl⟩ := (e.mp q).2; exact nI_nlt (b := 3) (a := 3) (Nat.le_refl _) (by decide) (Int32.lt_of_lt_of_le w2 (nI_le (b := 3) (by omega) (by decide)))
  · have e := lk_s (a := a) (b := b) (c := c) hk (by rw [k19]; decide) (by rw [k19]; decide) (by rw [k19]; decide)
    exact xk_var (fun z => ⟨rfl, h1 (e.mpr z)⟩) (fun z => ⟨rfl, h0 (fun w => z (e.mp w))⟩)
