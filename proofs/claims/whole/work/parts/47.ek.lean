/-! the lines that need no other goroutine -/
def ex_at (W : Nat) (u : SX) (v : SY) (n S g j i : Nat) : Prop := rl_mid W u v n S g (j + 1) ∧ xa_state u = 1 ∧ xa_mode u (4 * g + j) = 0 ∧ ya_panics v (4 * g + j) = 0 ∧ xa_position u (4 * g + j) = nI i ∧ ya_pc v (4 * g + j) = nI i ∧ i < n
def ex_x (W : Nat) (u : SX) (v : SY) (g i : Nat) : Prop := ex_r W (fun P => wpX_execute P u) (fun P => wpY_execute P v (nI g) (nI i))
theorem at_f {W : Nat} {u : SX} {v : SY} {n S g j i : Nat} (E : ex_at W u v n S g j i) : g < 12 ∧ j < 4 ∧ xa_running u = nI g ∧ xa_depth u g = nI (j + 1) ∧ ya_depth v g = nI (j + 1) ∧ i < 60 ∧ sx_st u n ∧ sy_st v n := sorry
theorem at_w {W : Nat} {u : SX} {v : SY} {n S g j i q : Nat} (E : ex_at W u v n S g j i) : rl_mid W (xp_at u (4 * g + j) q) v n S g (j + 1) ∧ xa_position (xp_at u (4 * g + j) q) (4 * g + j) = nI q := sorry
theorem ek_0 {W : Nat} {u : SX} {v : SY} {n S g j i : Nat} (E : ex_at W u v n S g j i) (k : xa_kinds u i = 0) : ex_x W u v g i := sorry
theorem ek_2 {W : Nat} {u : SX} {v : SY} {n S g j i : Nat} (E : ex_at W u v n S g j i) (k : xa_kinds u i = 2) : ex_x W u v g i := sorry
theorem ek_4 {W : Nat} {u : SX} {v : SY} {n S g j i : Nat} (E : ex_at W u v n S g j i) (k : xa_kinds u i = 4) : ex_x W u v g i := sorry
theorem yx_249 {P : SY → Prop} {v : SY} {n i l : Nat} {g : Int32} (T : sy_st v n) (hi : i < n) (h : wpY_goOn P v g (nI (st_e (ya_kind v) l n + 1))) :
    ∀ (L : List Nat) (b : Nat) (r : List Nat), st_s (ya_kind v) i = L ++ b :: r → (b :: r).find? (fun b => ya_kind v b == 4) = some l → ∀ m, r.length < m → cy_execute_249 P g v m (nI b) := sorry
theorem ek_5 {W : Nat} {u : SX} {v : SY} {n S g j i : Nat} (E : ex_at W u v n S g j i) (k : xa_kinds u i = 5) : ex_x W u v g i := sorry
