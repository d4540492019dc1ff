/-! the goroutine that waits longest for a channel -/
def lw (sw od : Nat → Int32) (w : Int32) : Nat → Option Nat
  | 0 => none
  | k + 1 => if sw k = w then (match lw sw od w k with
    | none => some k
    | some b => if od (b / 3) ≤ od (k / 3) then some b else some k) else lw sw od w k
theorem lw_0 {sw od : Nat → Int32} {w : Int32} {k : Nat} (h : ¬ sw k = w) : lw sw od w (k + 1) = lw sw od w k := sorry
theorem lw_1 {sw od : Nat → Int32} {w : Int32} {k : Nat} (h : sw k = w) (h' : lw sw od w k = none) : lw sw od w (k + 1) = some k := sorry
theorem lw_2 {sw od : Nat → Int32} {w : Int32} {k b : Nat} (h' : lw sw od w k = some b) (c : od (b / 3) ≤ od (k / 3)) : lw sw od w (k + 1) = some b := sorry
theorem lw_3 {sw od : Nat → Int32} {w : Int32} {k b : Nat} (h : sw k = w) (h' : lw sw od w k = some b) (c : ¬ od (b / 3) ≤ od (k / 3)) : lw sw od w (k + 1) = some k := sorry
theorem lw_in {sw od : Nat → Int32} {w : Int32} : ∀ k b, lw sw od w k = some b → b < k ∧ sw b = w := sorry
/-- the first slot of a goroutine with that wish -/
def fs (sw : Nat → Int32) (w : Int32) (g : Nat) : Option Nat := if sw (3 * g) = w then some 0 else if sw (3 * g + 1) = w then some 1 else if sw (3 * g + 2) = w then some 2 else none
theorem fs_some {sw : Nat → Int32} {w : Int32} {g i : Nat} (h : fs sw w g = some i) : i < 3 ∧ sw (3 * g + i) = w ∧ ∀ i', i' < i → ¬ sw (3 * g + i') = w := sorry
theorem fs_none {sw : Nat → Int32} {w : Int32} {g : Nat} (h : fs sw w g = none) : ∀ i, i < 3 → ¬ sw (3 * g + i) = w := sorry
theorem fs_no {sw : Nat → Int32} {w : Int32} {g : Nat} (h : ∀ i, i < 3 → ¬ sw (3 * g + i) = w) : fs sw w g = none := sorry
theorem fs_is {sw : Nat → Int32} {w : Int32} {g i : Nat} (h : i < 3) (h1 : sw (3 * g + i) = w) (h2 : ∀ i', i' < i → ¬ sw (3 * g + i') = w) : fs sw w g = some i := sorry
def gb (F : Nat → Option Nat) (od : Nat → Int32) : Nat → Option Nat
  | 0 => none
  | i + 1 => match F i with
    | none => gb F od i
    | some _ => (match gb F od i with
      | none => some i
      | some b => if od b ≤ od i then some b else some i)
theorem gb_0 {F : Nat → Option Nat} {od : Nat → Int32} {i : Nat} (h : F i = none) : gb F od (i + 1) = gb F od i := sorry
theorem gb_1 {F : Nat → Option Nat} {od : Nat → Int32} {i f : Nat} (h : F i = some f) (h' : gb F od i = none) : gb F od (i + 1) = some i := sorry
theorem gb_2 {F : Nat → Option Nat} {od : Nat → Int32} {i f b : Nat} (h : F i = some f) (h' : gb F od i = some b) (c : od b ≤ od i) : gb F od (i + 1) = some b := sorry
theorem gb_3 {F : Nat → Option Nat} {od : Nat → Int32} {i f b : Nat} (h : F i = some f) (h' : gb F od i = some b) (c : ¬ od b ≤ od i) : gb F od (i + 1) = some i := sorry
theorem gb_in {F : Nat → Option Nat} {od : Nat → Int32} : ∀ i b, gb F od i = some b → b < i ∧ ∃ f, F b = some f := sorry
theorem lw_gb {sw od : Nat → Int32} {w : Int32} : ∀ i, lw sw od w (3 * i) = (gb (fs sw w) od i).map (fun b => 3 * b + (fs sw w b).getD 0) := sorry
theorem nI_d3 {k : Nat} (h : k < 1000) : nI k / 3 = nI (k / 3) := sorry
theorem xw_4 {post : Int32 → Prop} {u : SX} {S : Nat} {w : Int32} (hS : S ≤ 12) (eS : xa_goroutineCount u = nI S) (h : post (oI (lw (xa_slotWish u) (xa_waitOrder u) w (3 * S)))) :
    ∀ d k, k + d = 3 * S → ∀ m, d < m → cx_longestWaiting_4 post w u m (oI (lw (xa_slotWish u) (xa_waitOrder u) w k)) (nI k) := sorry
/-- X's answer: the slot -/
def sI (F : Nat → Option Nat) : Option Nat → Int32
  | none => -1
  | some b => nI (3 * b + (F b).getD 0)
theorem xl_long {post : Int32 → Prop} {u : SX} {S : Nat} {w : Int32} (hS : S ≤ 12) (eS : xa_goroutineCount u = nI S) (h : post (sI (fs (xa_slotWish u) w) (gb (fs (xa_slotWish u) w) (xa_waitOrder u) S))) : wpX_longestWaiting post u w := sorry
/-- Y's scan, given what its waitLine answers -/
theorem yl_long {post : Int32 → Prop} {v : SY} {F : Nat → Option Nat} {S : Nat} {ch sn : Int32} (hS : S ≤ 12)
    (hw : ∀ g, g < 12 → ∀ Q : Int32 → Prop, (∀ r, ¬ r < 0 → (g < S ∧ ∃ f, F g = some f) → Q r) → ((S ≤ g ∨ F g = none) → Q (-1)) → wpY_waitLine Q v (nI g) ch sn) (h : post (oI (gb F (ya_since v) S))) : wpY_longest post v ch sn := sorry
