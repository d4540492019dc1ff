/-! lines, functions, CALLEE -/
abbrev ln_set (k : Int32) : Prop := k = 8 ∨ k = 11 ∨ k = 13 ∨ k = 19 ∨ k = 21 ∨ k = 22 ∨ k = 23 ∨ k = 24 ∨ k = 25 ∨ k = 26 ∨ k = 27
abbrev ln_go (k : Int32) : Prop := k = 14 ∨ k = 15 ∨ k = 16
/-- what a line that was taken is like -/
def ln_ok (k a b c : Int32) : Prop := (∃ q, q < 30 ∧ k = nI q) ∧ (k = 0 → ∃ p, p < 3 ∧ a = nI p) ∧ (ln_set k → ∃ p, p < 6 ∧ a = nI p) ∧ (k = 8 ∨ k = 11 → ∃ p, p < 6 ∧ c = nI p) ∧ (k = 13 → ∃ p, p < 4 ∧ b = nI p) ∧ (ln_go k → ∃ p, p < 30 ∧ a = nI p)
theorem yfn_loop {post : Int32 → Prop} {v : SY} {n f : Nat} (hn : ya_lines v = nI n) (n60 : n ≤ 60) (hS : ∀ j, j < n → ya_kind v j = 0 → st_f (ya_kind v) j = f → post (nI j)) (hN : st_f (ya_kind v) n ≤ f → post (-1)) :
    ∀ d i q, i + d = n → q < 100 → q + st_f (ya_kind v) i = f → ∀ m, d < m → cy_function_4 post v m (nI q) (nI i) := by
  intro d
  induction d with
  | zero =>
    intro i q hi hq hf m hm
    obtain ⟨m, rfl⟩ : ∃ q, m = q + 1 := ⟨m - 1, by omega⟩
    rw [uy_function_4, hn]
    have e : i = n := by omega
    subst e
    exact br_t (nI_le (Nat.le_refl _) (by omega)) (hN (by omega))
  | succ d ih =>
    intro i q hi hq hf m hm
    obtain ⟨m, rfl⟩ : ∃ q, m = q + 1 := ⟨m - 1, by omega⟩
    rw [uy_function_4, hn]
    refine br_f (nI_ge (by omega) (by omega)) ⟨vp_in_nI (by omega) (by decide), ?_⟩
    rw [nI_clamp (by omega)]
    refine br_c (fun k0 => ?_) (fun k0 => nm_r (nI_1 _) (ih (i + 1) q (by omega) hq (by rw [fm_f0 k0]; exact hf) m (by omega)))
    cases q with
    | zero => exact nm_e (br_t rfl (hS i (by omega) k0 (by omega)))
    | succ q => exact nm_r (pk_m1 _) (br_f (nI_ne0 (by omega) (by omega)) (nm_r (nI_1 _) (ih (i + 1) q (by omega) (by omega) (by rw [fm_f1 k0]; omega) m (by omega))))
theorem yfn {post : Int32 → Prop} {v : SY} {n f : Nat} (hn : ya_lines v = nI n) (n60 : n ≤ 60) (hf : f < 100) (hS : ∀ j, j < n → ya_kind v j = 0 → st_f (ya_kind v) j = f → post (nI j)) (hN : st_f (ya_kind v) n ≤ f → post (-1)) : wpY_function post v (nI f) := by
  rw [uy_function]
  exact ⟨_, yfn_loop hn n60 hS hN n 0 f (by omega) hf rfl (n + 1) (by omega)⟩
def ce_res (K A : Nat → Int32) (F n : Nat) (r : Int32) : Prop :=
  (∃ i, i < n ∧ (∀ j, j < i → ln_go (K j) → A j < nI F) ∧ ln_go (K i) ∧ ¬ A i < nI F ∧ r = nI i) ∨ ((∀ j, j < n → ln_go (K j) → A j < nI F) ∧ r = -1)
theorem ce_uniq {K A : Nat → Int32} {F n : Nat} {r r' : Int32} (h : ce_res K A F n r) (h' : ce_res K A F n r') : r' = r := by
  rcases h with ⟨i, a, b, g, c, d⟩ | ⟨b, c⟩
  · rcases h' with ⟨i', a', b', g', c', d'⟩ | ⟨b', c'⟩
    · rcases Nat.lt_trichotomy i i' with z | z | z
      · exact absurd (b' i z g) c
      · subst z; rw [d, d']
      · exact absurd (b i' z g') c'
    · exact absurd (b' i a g) c
  · rcases h' with ⟨i', a', b', g', c', d'⟩ | ⟨b', c'⟩
    · exact absurd (b i' a' g') c'
    · rw [c, c']
theorem xc_loop {post : Int32 → Prop} {u : SX} {n F : Nat} (hn : xa_lineCount u = nI n) (n60 : n ≤ 60) (hF : xa_functionCount u = nI F) (hp : ∀ r, ce_res (xa_kinds u) (xa_argA u) F n r → post r) :
    ∀ d i, i + d = n → (∀ j, j < i → ln_go (xa_kinds u j) → xa_argA u j < nI F) → ∀ m, d < m → cx_calleeFault_2 post u m (nI i) := by
  intro d
  induction d with
  | zero =>
    intro i hi hok m hm
    obtain ⟨m, rfl⟩ : ∃ q, m = q + 1 := ⟨m - 1, by omega⟩
    rw [ux_calleeFault_2, hn]
    have e : i = n := by omega
    subst e
    exact br_t (nI_le (Nat.le_refl _) (by omega)) (hp _ (Or.inr ⟨hok, rfl⟩))
  | succ d ih =>
    intro i hi hok m hm
    obtain ⟨m, rfl⟩ : ∃ q, m = q + 1 := ⟨m - 1, by omega⟩
    have nx : (ln_go (xa_kinds u i) → xa_argA u i < nI F) → cx_calleeFault_2 post u m (nI (i + 1)) := by
      intro h
      refine ih (i + 1) (by omega) (fun j hj g => ?_) m (by omega)
      by_cases z : j = i
      · subst z; exact h g
      · exact hok j (by omega) g
    rw [ux_calleeFault_2, hn, hF]
    refine br_f (nI_ge (by omega) (by omega)) ⟨vp_in_nI (by omega) (by decide), ?_⟩
    rw [nI_clamp (by omega)]
    refine xk_start (fun g => br_f (by decide) ⟨vp_in_nI (by omega) (by decide), ?_⟩) (fun g => br_t rfl (nm_r (nI_1 _) (nx (fun z => absurd z g))))
    exact br_c (fun a => nm_r (nI_1 _) (nx (fun _ => a))) (fun a => hp _ (Or.inl ⟨i, by omega, hok, g, a, rfl⟩))
theorem xc_callee {post : Int32 → Prop} {u : SX} {n F : Nat} (hn : xa_lineCount u = nI n) (n60 : n ≤ 60) (hF : xa_functionCount u = nI F) (hp : ∀ r, ce_res (xa_kinds u) (xa_argA u) F n r → post r) : wpX_calleeFault post u := by
  rw [ux_calleeFault]
  exact ⟨_, xc_loop hn n60 hF hp n 0 (by omega) (fun j hj => by omega) (n + 1) (by omega)⟩
theorem go_rng {k : Int32} : ln_go k ↔ ¬ k < 14 ∧ ¬ 16 < k := by
  have e : ∀ m : Int32, k = m ↔ k.toInt = m.toInt := fun m => Int32.toInt_inj.symm
  simp only [ln_go, e, Int32.lt_iff_toInt_lt, show (14 : Int32).toInt = 14 from rfl, show (15 : Int32).toInt = 15 from rfl, show (16 : Int32).toInt = 16 from rfl]
  omega
theorem yc_loop {post : Int32 → Prop} {v : SY} {n F : Nat} (hn : ya_lines v = nI n) (n60 : n ≤ 60) (hF : st_f (ya_kind v) n = F) (F30 : F ≤ 60) (hl : ∀ i, i < n → ln_go (ya_kind v i) → ∃ p, p < 30 ∧ ya_opA v i = nI p) (hp : ∀ r, ce_res (ya_kind v) (ya_opA v) F n r → post r) :
    ∀ d i, i + d = n → (∀ j, j < i → ln_go (ya_kind v j) → ya_opA v j < nI F) → ∀ m, d < m → cy_callee_2 post v m (nI i) := by
  intro d
  induction d with
  | zero =>
    intro i hi hok m hm
    obtain ⟨m, rfl⟩ : ∃ q, m = q + 1 := ⟨m - 1, by omega⟩
    rw [uy_callee_2, hn]
    have e : i = n := by omega
    subst e
    exact br_t (nI_le (Nat.le_refl _) (by omega)) (hp _ (Or.inr ⟨hok, rfl⟩))
  | succ d ih =>
    intro i hi hok m hm
    obtain ⟨m, rfl⟩ : ∃ q, m = q + 1 := ⟨m - 1, by omega⟩
    have nx : (ln_go (ya_kind v i) → ya_opA v i < nI F) → cy_callee_2 post v m (nI (i + 1)) := by
      intro h
      refine ih (i + 1) (by omega) (fun j hj g => ?_) m (by omega)
      by_cases z : j = i
      · subst z; exact h g
      · exact hok j (by omega) g
    rw [uy_callee_2, hn]
    refine br_f (nI_ge (by omega) (by omega)) ⟨vp_in_nI (by omega) (by decide), ?_⟩
    rw [nI_clamp (by omega)]
    refine br_c (fun a => nm_r (nI_1 _) (nx (fun z => absurd a (go_rng.mp z).1))) (fun a => ⟨vp_in_nI (by omega) (by decide), br_c (fun b => nm_r (nI_1 _) (nx (fun z => absurd b (go_rng.mp z).2))) (fun b => ⟨vp_in_nI (by omega) (by decide), ?_⟩)⟩)
    have g := go_rng.mpr ⟨a, b⟩
    obtain ⟨p, hp30, ep⟩ := hl i (by omega) g
    rw [ep]
    refine yfn hn n60 (by omega) (fun j hj k0 ej => br_t (nI_pos' (by omega)) (nm_r (nI_1 _) (nx (fun _ => ?_)))) (fun hle => br_f (by decide) (hp _ (Or.inl ⟨i, by omega, hok, g, ?_, rfl⟩)))
    · rw [ep]
      have := st_f_lt k0 n hj
      exact nI_lt (by omega) (by omega)
    · rw [ep]
      exact nI_nlt (by omega) (by omega)
theorem yc_callee {post : Int32 → Prop} {v : SY} {n F : Nat} (hn : ya_lines v = nI n) (n60 : n ≤ 60) (hF : st_f (ya_kind v) n = F) (F30 : F ≤ 60) (hl : ∀ i, i < n → ln_go (ya_kind v i) → ∃ p, p < 30 ∧ ya_opA v i = nI p) (hp : ∀ r, ce_res (ya_kind v) (ya_opA v) F n r → post r) : wpY_callee post v := by
  rw [uy_callee]
  exact ⟨_, yc_loop hn n60 hF F30 hl hp n 0 (by omega) (fun j hj => by omega) (n + 1) (by omega)⟩
