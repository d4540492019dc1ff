/-! taking a line -/
theorem rg_lt {x : Int32} {N : Nat} (hN : N < 2 ^ 31) (h0 : ¬ x < 0) (h : ¬ nI N ≤ x) : ∃ p, p < N ∧ x = nI p := sorry
theorem rg_le {x : Int32} {N : Nat} (hN : N + 1 < 2 ^ 31) (h0 : ¬ x < 0) (h : ¬ nI N < x) : ∃ p, p < N + 1 ∧ x = nI p := sorry
theorem xk_var {post : Int32 → Prop} {u : SX} {x : Int32} (h1 : (∃ p, p < 6 ∧ x = nI p) → post 1) (h0 : ¬ (∃ p, p < 6 ∧ x = nI p) → post 0) : wpX_isVariable post u x := sorry
theorem lk_0 {k a b c : Int32} (hk : ∃ q, q < 30 ∧ k = nI q) (e : k = 0) : ln_ok k a b c ↔ ∃ p, p < 3 ∧ a = nI p := sorry
theorem lk_8 {k a b c : Int32} (hk : ∃ q, q < 30 ∧ k = nI q) (e : k = 8 ∨ k = 11) : ln_ok k a b c ↔ (∃ p, p < 6 ∧ a = nI p) ∧ ∃ p, p < 6 ∧ c = nI p := sorry
theorem lk_13 {k a b c : Int32} (hk : ∃ q, q < 30 ∧ k = nI q) (e : k = 13) : ln_ok k a b c ↔ (∃ p, p < 6 ∧ a = nI p) ∧ ∃ p, p < 4 ∧ b = nI p := sorry
theorem lk_14 {k a b c : Int32} (hk : ∃ q, q < 30 ∧ k = nI q) (e : ln_go k) : ln_ok k a b c ↔ ∃ p, p < 30 ∧ a = nI p := sorry
theorem lk_s {k a b c : Int32} (hk : ∃ q, q < 30 ∧ k = nI q) (s : ln_set k) (n8 : ¬ (k = 8 ∨ k = 11)) (n13 : ¬ k = 13) : ln_ok k a b c ↔ ∃ p, p < 6 ∧ a = nI p := sorry
theorem lk_n {k a b c : Int32} (hk : ∃ q, q < 30 ∧ k = nI q) (n0 : ¬ k = 0) (s : ¬ ln_set k) (g : ¬ ln_go k) : ln_ok k a b c := sorry
theorem xl_args {post : Int32 → Prop} {u : SX} {k a b c : Int32} (hk : ∃ q, q < 30 ∧ k = nI q) (h1 : ln_ok k a b c → post 1) (h0 : ¬ ln_ok k a b c → post 0) : wpX_argumentsFit post u k a b c := sorry
