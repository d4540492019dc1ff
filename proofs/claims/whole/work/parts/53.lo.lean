/-! the longest waiting goroutine: both -/
def wl_ln (K : Nat → Int32) (sn : Int32) (l : Nat) : Prop := (sn = 0 ∧ (K l = 8 ∨ K l = 11)) ∨ (¬ sn = 0 ∧ (K l = 7 ∨ K l = 10))
theorem wl_lk {K A B vars : Nat → Int32} {t m c l : Nat} {sn : Int32} (h : wl_is K A B vars t m c sn l) (k : K l = 7 ∨ K l = 8 ∨ K l = 10 ∨ K l = 11) : wl_ln K sn l := sorry
theorem n_ex {K : Nat → Int32} {P : Int32 → Bool} {o i : Nat} : ∀ n, i < st_n K P o n → ∃ l, l < n ∧ (st_s K l).head? = some o ∧ P (K l) = true ∧ st_n K P o l = i := sorry
/-- what is known of the waiting goroutine's slot -/
theorem wt_slot {W : Nat} {u : SX} {v : SY} {n g j i c : Nat} {sn : Int32} (ok : ∀ j, j < n → fm_ok (xa_kinds u) j) (c1 : 1 ≤ c) (c8 : c ≤ 8) (H : rl_wt W u v n g (j + 1)) (hi : i < 3) (h : xa_slotWish u (3 * g + i) = wsh c sn) : ∃ l, l < n ∧ xa_slotLine u (3 * g + i) = nI l ∧ wl_ln (xa_kinds u) sn l := sorry
theorem nw_fs {u : SX} {g c : Nat} {sn : Int32} (c1 : 1 ≤ c) (c8 : c ≤ 8) (h : rl_nw u g) : fs (xa_slotWish u) (wsh c sn) g = none := sorry
/-- the running goroutine waits for nothing -/
def rn_ok (r : Option Nat) (u : SX) (v : SY) : Prop := ∀ q, r = some q → rl_nw u q ∧ ya_status v q = 1
theorem go_fs {W : Nat} {u : SX} {v : SY} {n g c i : Nat} {sn : Int32} (c1 : 1 ≤ c) (c8 : c ≤ 8) (G : rl_go W u v n g) (h : fs (xa_slotWish u) (wsh c sn) g = some i) : xa_status u g = 2 := sorry
theorem wl_all {Q : Int32 → Prop} {W : Nat} {r : Option Nat} {u : SX} {v : SY} {n S g c : Nat} {sn : Int32} (H : rl_co W r u v n S) (Hr : rn_ok r u v) (hg : g < 12) (c1 : 1 ≤ c) (c8 : c ≤ 8) (hsn : sn = 0 ∨ sn = 1)
    (hS : ∀ i l, g < S → fs (xa_slotWish u) (wsh c sn) g = some i → xa_slotLine u (3 * g + i) = nI l → l < n → Q (nI l)) (hN : (S ≤ g ∨ fs (xa_slotWish u) (wsh c sn) g = none) → Q (-1)) : wpY_waitLine Q v (nI g) (nI c) sn := sorry
/-- the best goroutine, of both -/
def bst (u : SX) (S c : Nat) (sn : Int32) : Option Nat := gb (fs (xa_slotWish u) (wsh c sn)) (xa_waitOrder u) S
theorem lo_x {post : Int32 → Prop} {W : Nat} {r : Option Nat} {u : SX} {v : SY} {n S c : Nat} {sn : Int32} (H : rl_co W r u v n S) (h : post (sI (fs (xa_slotWish u) (wsh c sn)) (bst u S c sn))) : wpX_longestWaiting post u (wsh c sn) := sorry
theorem lo_y {post : Int32 → Prop} {W : Nat} {r : Option Nat} {u : SX} {v : SY} {n S c : Nat} {sn : Int32} (H : rl_co W r u v n S) (Hr : rn_ok r u v) (c1 : 1 ≤ c) (c8 : c ≤ 8) (hsn : sn = 0 ∨ sn = 1) (h : post (oI (bst u S c sn))) : wpY_longest post v (nI c) sn := sorry
theorem lo_some {W : Nat} {r : Option Nat} {u : SX} {v : SY} {n S c b : Nat} {sn : Int32} (H : rl_co W r u v n S) (Hr : rn_ok r u v) (c1 : 1 ≤ c) (c8 : c ≤ 8) (hsn : sn = 0 ∨ sn = 1) (h : bst u S c sn = some b) :
    ∃ i l j, i < 3 ∧ b < S ∧ ¬ some b = r ∧ fs (xa_slotWish u) (wsh c sn) b = some i ∧ sI (fs (xa_slotWish u) (wsh c sn)) (bst u S c sn) = nI (3 * b + i) ∧ xa_slotLine u (3 * b + i) = nI l ∧ l < n ∧ l + 1 < n ∧ wl_ln (xa_kinds u) sn l ∧ xa_status u b = 2 ∧ ya_status v b = 2 ∧ j < 4 ∧ xa_depth u b = nI (j + 1) ∧ ya_depth v b = nI (j + 1) ∧ ∀ Q : Int32 → Prop, Q (nI l) → wpY_waitLine Q v (nI b) (nI c) sn := sorry
theorem mid_rn {W : Nat} {u : SX} {v : SY} {n S g d : Nat} (H : rl_mid W u v n S g d) : rn_ok (some g) u v := sorry
theorem rn_none {u : SX} {v : SY} : rn_ok none u v := sorry
