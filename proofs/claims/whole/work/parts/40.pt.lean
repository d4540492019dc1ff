/-! time passes -/
theorem lN_ti {n : Nat} (h : n < 2 ^ 63) : (lN n).toInt = (n : Int) := sorry
theorem lN_nl {n : Nat} (h : n < 2 ^ 63) : ¬ lN n < 0 := sorry
theorem lN_n1 {n : Nat} (h : n < 2 ^ 63) : ¬ lN n = -1 := sorry
def pt_e (wu : Nat → Int64) : Nat → Int64
  | 0 => -1
  | i + 1 => if wu i = -1 then pt_e wu i else if pt_e wu i = -1 then wu i else if pt_e wu i ≤ wu i then pt_e wu i else wu i
theorem pt_ok {wu : Nat → Int64} {M S : Nat} (h : ∀ g, g < S → wu g = -1 ∨ ∃ s, s ≤ M ∧ wu g = lN s) : ∀ i, i ≤ S → pt_e wu i = -1 ∨ ∃ s, s ≤ M ∧ pt_e wu i = lN s := sorry
theorem xp_6 {post : SX → Prop} {u : SX} {S : Nat} (hS : S ≤ 12) (eS : xa_goroutineCount u = nI S) (h1 : pt_e (xa_waitUntil u) S = -1 → post u) (h2 : ¬ pt_e (xa_waitUntil u) S = -1 → ∃ m, cx_passTime_75 post (pt_e (xa_waitUntil u) S) m 0 (xs_time u (pt_e (xa_waitUntil u) S))) :
    ∀ d i, i + d = S → ∀ m, d < m → cx_passTime_6 post u m (pt_e (xa_waitUntil u) i) (nI i) := sorry
/-- what both sides know of the waits -/
def pt_R (wu : Nat → Int64) (v : SY) (M S : Nat) : Prop := (∀ g, g < S → (ya_status v g = 2 ∧ ya_until v g = wu g ∧ (wu g = -1 ∨ ∃ s, s ≤ M ∧ wu g = lN s)) ∨ (¬ ya_status v g = 2 ∧ wu g = -1)) ∧ ∀ g, S ≤ g → g < 12 → ¬ ya_status v g = 2
theorem pt_Rok {wu : Nat → Int64} {v : SY} {M S : Nat} (h : pt_R wu v M S) : ∀ g, g < S → wu g = -1 ∨ ∃ s, s ≤ M ∧ wu g = lN s := sorry
theorem yp_6 {post : SY → Prop} {v : SY} {wu : Nat → Int64} {M S : Nat} (hS : S ≤ 12) (hM : M < 2 ^ 63) (R : pt_R wu v M S) (h1 : pt_e wu S = -1 → post v) (h2 : ¬ pt_e wu S = -1 → ∃ m, cy_passTime_77 post (pt_e wu S) m 0 (ys_clock v (pt_e wu S))) :
    ∀ d i, i + d = 12 → ∀ m, d < m → cy_passTime_6 post v m (pt_e wu (if i ≤ S then i else S)) (nI i) := sorry
def oI : Option Nat → Int32
  | none => -1
  | some b => nI b
def pt_b (wu : Nat → Int64) (od : Nat → Int32) (e : Int64) : Nat → Option Nat
  | 0 => none
  | i + 1 => if wu i = e then (match pt_b wu od e i with
    | none => some i
    | some b => if od b ≤ od i then some b else some i) else pt_b wu od e i
theorem pt_b0 {wu : Nat → Int64} {od : Nat → Int32} {e : Int64} {i : Nat} (h : ¬ wu i = e) : pt_b wu od e (i + 1) = pt_b wu od e i := sorry
theorem pt_b1 {wu : Nat → Int64} {od : Nat → Int32} {e : Int64} {i : Nat} (h : wu i = e) (h' : pt_b wu od e i = none) : pt_b wu od e (i + 1) = some i := sorry
theorem pt_b2 {wu : Nat → Int64} {od : Nat → Int32} {e : Int64} {i b : Nat} (h : wu i = e) (h' : pt_b wu od e i = some b) (c : od b ≤ od i) : pt_b wu od e (i + 1) = some b := sorry
theorem pt_b3 {wu : Nat → Int64} {od : Nat → Int32} {e : Int64} {i b : Nat} (h : wu i = e) (h' : pt_b wu od e i = some b) (c : ¬ od b ≤ od i) : pt_b wu od e (i + 1) = some i := sorry
theorem pt_bin {wu : Nat → Int64} {od : Nat → Int32} {e : Int64} : ∀ i b, pt_b wu od e i = some b → b < i ∧ wu b = e := sorry
theorem xp_5 {post : Int32 → Prop} {u : SX} {S : Nat} {e : Int64} (hS : S ≤ 12) (eS : xa_goroutineCount u = nI S) (h : post (oI (pt_b (xa_waitUntil u) (xa_waitOrder u) e S))) :
    ∀ d i, i + d = S → ∀ m, d < m → cx_longestWaitingUntil_5 post e u m (oI (pt_b (xa_waitUntil u) (xa_waitOrder u) e i)) (nI i) := sorry
theorem yp_89 {post : SY → Prop} {J : Int32 → SY → Prop} {v : SY} {wu : Nat → Int64} {M S : Nat} {e : Int64} {x3 : Int32} (hS : S ≤ 12) (R : pt_R wu v M S) (he : ¬ e = -1)
    (h0 : pt_b wu (ya_since v) e S = none → ∀ x, x = x3 + 1 → J x v) (h1 : ∀ b, pt_b wu (ya_since v) e S = some b → wpY_late (fun u8 => ∀ x, x = x3 + 1 → J x u8) v (nI b)) :
    ∀ d i, i + d = 12 → ∀ m, d < m → cy_passTime_89 post J e x3 v m (oI (pt_b wu (ya_since v) e (if i ≤ S then i else S))) (nI i) := sorry
