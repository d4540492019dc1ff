/-! Y: the loop of the form -/
def st_pe (k : Int32) : Bool := k == 3
theorem st_pe_iff {k : Int32} : st_pe k = true ↔ k = 3 := sorry
theorem xn_el {K : Nat → Int32} {o : Nat} : ∀ i, st_n K st_pe o i = 0 ↔ ¬ st_el K o i := sorry
def fm_sv (c a : Nat) : Nat := if c + a = 0 then 0 else 1 + c + 8 * a
def fm_seen (K : Nat → Int32) (b i : Nat) : Nat := if K b = 2 then st_n K st_pe b i else if K b = 6 then fm_sv (st_n K st_pc b i) (st_n K st_pa b i) else 0
theorem fm_bnd {K : Nat → Int32} {o : Nat} : ∀ i, (∀ j, j < i → fm_ok K j) → st_n K st_pc o i ≤ 3 ∧ st_n K st_pa o i ≤ 1 ∧ st_n K st_pe o i ≤ 1 := sorry
theorem fm_seen_le {K : Nat → Int32} {o i : Nat} (h : ∀ j, j < i → fm_ok K j) : fm_seen K o i ≤ 12 := sorry
theorem fm_seen_s {K : Nat → Int32} {b i : Nat} (h : ¬ ((st_s K i).head? = some b ∧ (K i = 3 ∨ st_sec (K i)))) : fm_seen K b (i + 1) = fm_seen K b i := sorry
theorem fm_seen_0 {K : Nat → Int32} {i : Nat} : fm_seen K i (i + 1) = 0 := sorry
theorem fs_and : ∀ c, c < 4 → ∀ a, a < 2 → ((nI (fm_sv c a) &&& 7) ≤ 3 ↔ c < 3) := sorry
theorem fs_lt : ∀ c, c < 4 → ∀ a, a < 2 → (nI (fm_sv c a) < 8 ↔ a < 1) := sorry
theorem fs_0 : ∀ c, c < 4 → ∀ a, a < 2 → (nI (fm_sv c a) = 0 ↔ c + a = 0) := sorry
theorem fs_c1 : ∀ c, c < 3 → ∀ a, a < 2 → ¬ c + a = 0 → vp_nar .byte ((nI (fm_sv c a) + 1).toInt8.toInt32) = nI (fm_sv (c + 1) a) := sorry
theorem fs_a1 : ∀ c, c < 4 → ∀ a, a < 1 → ¬ c + a = 0 → vp_nar .byte ((nI (fm_sv c a) + 8).toInt8.toInt32) = nI (fm_sv c (a + 1)) := sorry
theorem nb_8 : ∀ i, i < 60 → vp_nar .byte ((nI i).toInt8.toInt32) = nI i := sorry
def fm_stk (op sn : Nat → Int32) (K : Nat → Int32) (i : Nat) : List Nat → Prop
  | [] => True
  | b :: r => op r.length = nI b ∧ sn r.length = nI (fm_seen K b i) ∧ fm_stk op sn K i r
theorem fm_stk_i {op sn K : Nat → Int32} {i : Nat} : ∀ {L : List Nat}, (∀ b, b ∈ L → fm_seen K b (i + 1) = fm_seen K b i) → fm_stk op sn K i L → fm_stk op sn K (i + 1) L := sorry
theorem fm_stk_u {op sn K : Nat → Int32} {i m : Nat} {x y : Int32} : ∀ {L : List Nat}, L.length ≤ m → fm_stk op sn K i L → fm_stk (upd op m x) (upd sn m y) K i L := sorry
theorem fm_stk_n {op sn K : Nat → Int32} {i m : Nat} {y : Int32} : ∀ {L : List Nat}, L.length ≤ m → fm_stk op sn K i L → fm_stk op (upd sn m y) K i L := sorry
theorem fm_stk_1 {op sn K : Nat → Int32} {i : Nat} : ∀ {L : List Nat}, fm_stk op sn K i L → ∀ t, t < L.length → ∃ b, b ∈ L ∧ op t = nI b := sorry
theorem fm_stk_2 {op sn K : Nat → Int32} {i : Nat} : ∀ {L : List Nat}, fm_stk op sn K i L → ∀ b, b ∈ L → ∃ t, t < L.length ∧ op t = nI b := sorry
theorem yb_loop {post : Int32 → SY → Prop} {J : Int32 → Int32 → SY → Prop} {v : SY} {S : List Nat} {i : Nat} (hi : i < 60) (hS : S.length ≤ 60) (hb : ∀ b, b ∈ S → b < 60)
    (H1 : ∀ t, t < S.length → ∃ b, b ∈ S ∧ ya_open v t = nI b) (H2 : ∀ b, b ∈ S → ∃ t, t < S.length ∧ ya_open v t = nI b)
    (h1 : (∃ b, b ∈ S ∧ ya_kind v b = 4) → J (nI S.length) (nI (i + 1)) v) (h0 : ¬ (∃ b, b ∈ S ∧ ya_kind v b = 4) → post (nI i) v) :
    ∀ d t f, t + d = S.length → ((f = 0 ∧ ∀ q, q < t → ∀ b, ya_open v q = nI b → b < 60 → ¬ ya_kind v b = 4) ∨ (f = 1 ∧ ∃ b, b ∈ S ∧ ya_kind v b = 4)) → ∀ m, d < m → cy_form_240 post J (nI S.length) (nI i) v m f (nI t) := sorry
def fm_v (v : SY) (op sn : Nat → Int32) : SY := ys_seen (ys_open v op) sn
theorem fv_1 {v : SY} {op sn s : Nat → Int32} : ys_seen (fm_v v op sn) s = fm_v v op s := sorry
theorem fv_2 {v : SY} {op sn o s : Nat → Int32} : ys_seen (ys_open (fm_v v op sn) o) s = fm_v v o s := sorry
theorem fv_0 {v : SY} : v = fm_v v (ya_open v) (ya_seen v) := sorry
/-- a SELECT's first line is a section or its END: then no section is seen only right behind the SELECT -/
theorem fm_first {K : Nat → Int32} {i o : Nat} {r : List Nat} (h : ∀ j, j < i → fm_ok K j) (e : st_s K i = o :: r) (k6 : K o = 6) : fm_sv (st_n K st_pc o i) (st_n K st_pa o i) = 0 ↔ o + 1 = i := sorry
theorem yj_312 {post : Int32 → SY → Prop} {J : Int32 → Int32 → SY → Prop} {v : SY} {op sn : Nat → Int32} {t i : Nat} (ht : t < 60) (hi : i < 60)
    (h : J (nI (t + 1)) (nI (i + 1)) (fm_v v (upd op t (nI i)) (upd sn t (nI 0)))) : cy_form_312 post J (nI t) (nI i) (fm_v v op sn) := sorry
theorem yj_180 {post : Int32 → SY → Prop} {J : Int32 → Int32 → SY → Prop} {v : SY} {op sn : Nat → Int32} {t i c a : Nat} {k : Int32} (ht : t < 60) (hi : i < 60) (hc : c < 4) (ha : a < 2) (hs : st_sec k)
    (h1 : st_pc k = true → c < 3 ∧ J (nI (t + 1)) (nI (i + 1)) (fm_v v op (upd sn t (nI (fm_sv (c + 1) a))))) (h0 : st_pc k = false → a < 1 ∧ J (nI (t + 1)) (nI (i + 1)) (fm_v v op (upd sn t (nI (fm_sv c (a + 1)))))) :
    cy_form_180 post J (nI (t + 1)) (nI i) k (nI (fm_sv c a)) (fm_v v op sn) := sorry
/-- a line in block o: what the 109th row asks -/
theorem yj_109 {post : Int32 → SY → Prop} {J : Int32 → Int32 → SY → Prop} {v : SY} {op sn : Nat → Int32} {i o : Nat} {r : List Nat} (hi : i < 60) (e : st_s (ya_kind v) i = o :: r) (hok : ∀ j, j < i → fm_ok (ya_kind v) j)
    (hs : fm_stk op sn (ya_kind v) i (o :: r)) (k0 : ¬ ya_kind v i = 0) (k6 : ¬ ya_kind v i = 1 → ¬ st_sec (ya_kind v i) → ¬ (ya_kind v o = 6 ∧ o + 1 = i))
    (h1 : fm_ok (ya_kind v) i → ∀ op sn, fm_stk op sn (ya_kind v) (i + 1) (st_s (ya_kind v) (i + 1)) → J (nI (st_s (ya_kind v) (i + 1)).length) (nI (i + 1)) (fm_v v op sn))
    (h0 : ¬ fm_ok (ya_kind v) i → post (nI i) (fm_v v op sn)) : cy_form_109 post J (nI (r.length + 1)) (nI i) (ya_kind v i) (ya_kind v o) (nI (fm_seen (ya_kind v) o i)) (fm_v v op sn) := sorry
theorem yf_loop {post : Int32 → SY → Prop} {v : SY} {n : Nat} (hn : ya_lines v = nI n) (n60 : n ≤ 60) (hp : ∀ r op sn, fm_res (ya_kind v) n r → post r (fm_v v op sn)) :
    ∀ d i op sn, i + d = n → (∀ j, j < i → fm_ok (ya_kind v) j) → fm_stk op sn (ya_kind v) i (st_s (ya_kind v) i) → ∀ m, d < m → cy_form_4 post m (nI (st_s (ya_kind v) i).length) (nI i) (fm_v v op sn) := sorry
theorem yf_form {post : Int32 → SY → Prop} {v : SY} {n : Nat} (hn : ya_lines v = nI n) (n60 : n ≤ 60) (hp : ∀ r op sn, fm_res (ya_kind v) n r → post r (fm_v v op sn)) : wpY_form post v := sorry
/-- lines without a fault of form are well formed -/
theorem fm_wf {K : Nat → Int32} {n : Nat} (n60 : n ≤ 60) (h : fm_res K n (-1)) : st_wf K n ∧ (∀ j, j < n → fm_ok K j) ∧ 0 < n := sorry
