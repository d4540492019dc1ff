/-! UNSET: Y's spreading -/
def un_yv (w : Nat) : Int32 := if w = 0 then -1 else nI (w - 64)
def un_SY (U : Nat → Int32) (y : Nat → Nat) (n : Nat) : Prop := ∀ t, t < n → U t = un_yv (y t) ∧ y t < 128 ∧ (y t = 0 ∨ 64 ≤ y t)
abbrev un_fl (f : Int32) : Prop := f = 0 ∨ f = 1
theorem fl_or {a b : Int32} (ha : un_fl a) (hb : un_fl b) : un_fl (a ||| b) := sorry
theorem fl_nar {f : Int32} (h : un_fl f) : narrow .boolean (.int f) = .int f := sorry
theorem nb_64 : ∀ i, i < 64 → vp_nar .byte ((nI i).toInt8.toInt32) = nI i := sorry
theorem un_yor : ∀ a, a < 64 → ∀ b, b < 64 → (64 + a ||| 64 + b) = 64 + (a ||| b) := sorry
theorem un_absorb {a o : Nat} (h : ∀ b, o.testBit b = true → a.testBit b = true) : a ||| o = a := sorry
theorem un_yv_or {w o : Nat} (hw : w < 128) (h0 : 64 ≤ w) (ho : o < 128) (h1 : 64 ≤ o) : un_yv w ||| nI (o - 64) = un_yv (w ||| o) ∧ un_yv (w ||| o) = nI ((w ||| o) - 64) ∧ (w ||| o) - 64 < 64 ∧ 64 ≤ w ||| o := sorry
theorem un_SY_up {U : Nat → Int32} {y : Nat → Nat} {n m o : Nat} (h : un_SY U y n) (hm : m < n) (ho : o < 128) (h1 : 64 ≤ o) : un_SY (upd U m (un_yv (y m ||| o))) (un_up y m o) n := sorry
theorem yr_reach {post : Int32 → SY → Prop} {v : SY} {U : Nat → Int32} {y : Nat → Nat} {n j o : Nat} (T : sy_st v n) (hU : un_SY U y n) (hj : j < n) (ho : o < 128) (h1 : 64 ≤ o)
    (h : ∀ U' f, un_SY U' (un_up y (st_ch (ya_kind v) n j) o) n → un_fl f → (y (st_ch (ya_kind v) n j) ||| o = y (st_ch (ya_kind v) n j) → f = 0) → post f (ys_unset v U')) : wpY_reach post (ys_unset v U) (nI j) (nI (o - 64)) := sorry
theorem un_mk1 : ∀ m, m < 64 → ∀ a, a < 6 → nI m &&& (nI (2 ^ a) ^^^ (-1)) = nI (((64 + m) &&& (127 - 2 ^ a)) - 64) := sorry
theorem un_mk2 : ∀ m, m < 64 → ∀ a, a < 6 → ∀ c, c < 6 → ((64 + m) &&& (127 - 2 ^ a)) &&& (127 - 2 ^ c) = (64 + m) &&& (127 - (2 ^ a ||| 2 ^ c)) := sorry
theorem un_mk3 : ∀ m, m < 64 → ∀ a, a < 6 → ∀ c, c < 6 → nI m &&& ((nI (2 ^ a) ||| nI (2 ^ c)) ^^^ (-1)) = nI (((64 + m) &&& (127 - (2 ^ a ||| 2 ^ c))) - 64) := sorry
theorem un_mk0 : ∀ m, m < 64 → ∀ a, a < 6 → 64 ≤ (64 + m) &&& (127 - 2 ^ a) ∧ (64 + m) &&& (127 - 2 ^ a) < 128 := sorry
theorem un_o_ge {K A C : Nat → Int32} {i w : Nat} (hw : w < 128) (h : 64 ≤ w) : 64 ≤ un_o K A C i w := sorry
theorem ysets {post : Int32 → Prop} {k : Int32} (h1 : ln_set k → post 1) (h0 : ¬ ln_set k → post 0) : wpY_sets post k := sorry
def un_YS (K A C : Nat → Int32) (n i w : Nat) (y y' : Nat → Nat) : Prop := ∀ t, t < n → ∀ b, (y' t).testBit b = true ↔ (y t).testBit b = true ∨ ∃ j o, un_Y K A C n i w j o ∧ st_ch K n j = t ∧ o.testBit b = true
def un_sat (K A C : Nat → Int32) (n i w : Nat) (y : Nat → Nat) : Prop := ∀ j o, un_Y K A C n i w j o → ∀ b, o.testBit b = true → (y (st_ch K n j)).testBit b = true
/-- BREAK: outwards to the LOOP -/
theorem yr_84 {post : Int32 → SY → Prop} {v : SY} {U : Nat → Int32} {n l i : Nat} {x3 : Int32} (T : sy_st v n) (hi : i < n) (hl : (st_s (ya_kind v) i).find? (fun b => ya_kind v b == 4) = some l)
    (h : wpY_reach (fun r u => (narrow .boolean (.int r) = .int r ∧ post r u)) (ys_unset v U) (nI (st_e (ya_kind v) l n + 1)) x3) :
    ∀ (L : List Nat) (b : Nat) (r : List Nat), st_s (ya_kind v) i = L ++ b :: r → (b :: r).find? (fun b => ya_kind v b == 4) = some l → ∀ m, r.length + 1 ≤ m → cy_spread_84 post x3 (ys_unset v U) m (nI b) := sorry
theorem yr_141 {post : Int32 → SY → Prop} {v : SY} {n i w : Nat} (T : sy_st v n) (hi : i < n) (k6 : ya_kind v i = 6) (hw : w < 128) (hw1 : 64 ≤ w) {y : Nat → Nat}
    (h : ∀ U' y' f, un_SY U' y' n → (∀ t, t < n → ∀ b, (y' t).testBit b = true ↔ (y t).testBit b = true ∨ ∃ q, q < n ∧ un_pt (ya_kind v) i q ∧ st_ch (ya_kind v) n (q + 1) = t ∧ (if ya_kind v q = 8 then un_o (ya_kind v) (ya_opA v) (ya_opC v) q w else w).testBit b = true) → un_fl f →
      ((∀ q, q < n → un_pt (ya_kind v) i q → ∀ b, (if ya_kind v q = 8 then un_o (ya_kind v) (ya_opA v) (ya_opC v) q w else w).testBit b = true → (y (st_ch (ya_kind v) n (q + 1))).testBit b = true) → f = 0) → post f (ys_unset v U')) :
    ∀ d j U y' f, j + d = st_e (ya_kind v) i n + 1 → i < j → un_SY U y' n → un_fl f →
    ((∀ q, q < n → un_pt (ya_kind v) i q → ∀ b, (if ya_kind v q = 8 then un_o (ya_kind v) (ya_opA v) (ya_opC v) q w else w).testBit b = true → (y (st_ch (ya_kind v) n (q + 1))).testBit b = true) → f = 0 ∧ ∀ t, t < n → y' t = y t) →
    (∀ t, t < n → ∀ b, (y' t).testBit b = true ↔ (y t).testBit b = true ∨ ∃ q, q < j ∧ q < n ∧ un_pt (ya_kind v) i q ∧ st_ch (ya_kind v) n (q + 1) = t ∧ (if ya_kind v q = 8 then un_o (ya_kind v) (ya_opA v) (ya_opC v) q w else w).testBit b = true) →
    ((st_P (ya_kind v) i j ∧ j < st_e (ya_kind v) i n → ∀ m, d + 1 < m → cy_spread_141 post (nI i) (nI (w - 64)) m f (nI j) (ys_unset v U)) ∧ (j = st_e (ya_kind v) i n → ∀ m, 0 < m → cy_spread_141 post (nI i) (nI (w - 64)) m f (-1) (ys_unset v U))) := sorry
