/-! UNSET: Y's spreading -/
def un_yv (w : Nat) : Int32 := if w = 0 then -1 else nI (w - 64)
def un_SY (U : Nat → Int32) (y : Nat → Nat) (n : Nat) : Prop := ∀ t, t < n → U t = un_yv (y t) ∧ y t < 128 ∧ (y t = 0 ∨ 64 ≤ y t)
abbrev un_fl (f : Int32) : Prop := f = 0 ∨ f = 1
theorem fl_or {a b : Int32} (ha : un_fl a) (hb : un_fl b) : un_fl (a ||| b) := by
  rcases ha with h | h <;> rcases hb with g | g <;> (subst h; subst g; decide)
theorem fl_nar {f : Int32} (h : un_fl f) : narrow .boolean (.int f) = .int f := by
  rcases h with h | h <;> (subst h; rfl)
theorem nb_64 : ∀ i, i < 64 → vp_nar .byte ((nI i).toInt8.toInt32) = nI i := by decide +kernel
theorem un_yor : ∀ a, a < 64 → ∀ b, b < 64 → (64 + a ||| 64 + b) = 64 + (a ||| b) := by decide +kernel
theorem un_absorb {a o : Nat} (h : ∀ b, o.testBit b = true → a.testBit b = true) : a ||| o = a := by
  apply un_ext
  intro b
  rw [Nat.testBit_or, Bool.or_eq_true]
  exact ⟨fun z => z.elim id (h b), Or.inl⟩
theorem un_yv_or {w o : Nat} (hw : w < 128) (h0 : 64 ≤ w) (ho : o < 128) (h1 : 64 ≤ o) : un_yv w ||| nI (o - 64) = un_yv (w ||| o) ∧ un_yv (w ||| o) = nI ((w ||| o) - 64) ∧ (w ||| o) - 64 < 64 ∧ 64 ≤ w ||| o := by
  obtain ⟨a, rfl⟩ : ∃ a, w = 64 + a := ⟨w - 64, by omega⟩
  obtain ⟨b, rfl⟩ : ∃ b, o = 64 + b := ⟨o - 64, by omega⟩
  have e := un_yor a (by omega) b (by omega)
  have lt := un_or64 (show a < 64 by omega) (show b < 64 by omega)
  unfold un_yv
  rw [e, if_neg (by omega), if_neg (by omega), show 64 + a - 64 = a by omega, show 64 + b - 64 = b by omega, show 64 + (a ||| b) - 64 = a ||| b by omega, nx_or]
  exact ⟨rfl, rfl, lt, by omega⟩
theorem un_SY_up {U : Nat → Int32} {y : Nat → Nat} {n m o : Nat} (h : un_SY U y n) (hm : m < n) (ho : o < 128) (h1 : 64 ≤ o) : un_SY (upd U m (un_yv (y m ||| o))) (un_up y m o) n := by
  intro t ht
  unfold un_up
  by_cases e : t = m
  · subst e
    rw [pk_us, if_pos rfl]
    refine ⟨rfl, un_or128 (h t ht).2.1 ho, Or.inr ?_⟩
    rcases (h t ht).2.2 with z | z
    · rw [z, Nat.zero_or]; exact h1
    · exact (un_yv_or (h t ht).2.1 z ho h1).2.2.2
  · rw [pk_un e, if_neg e]
    exact h t ht
theorem yr_reach {post : Int32 → SY → Prop} {v : SY} {U : Nat → Int32} {y : Nat → Nat} {n j o : Nat} (T : sy_st v n) (hU : un_SY U y n) (hj : j < n) (ho : o < 128) (h1 : 64 ≤ o)
    (h : ∀ U' f, un_SY U' (un_up y (st_ch (ya_kind v) n j) o) n → un_fl f → (y (st_ch (ya_kind v) n j) ||| o = y (st_ch (ya_kind v) n j) → f = 0) → post f (ys_unset v U')) : wpY_reach post (ys_unset v U) (nI j) (nI (o - 64)) := by
  have n60 := T.2.1.1
  have ct := (st_ch_ok T.2.1 n j hj (by omega)).1
  rw [uy_reach]
  refine ye_settle (v := ys_unset v U) T.1 T.2.1 hj ?_
  rw [show ya_kind (ys_unset v U) = ya_kind v from rfl]
  generalize st_ch (ya_kind v) n j = t at ct h ⊢
  have cl : (nI t).toNatClampNeg = t := nI_clamp (by omega)
  have vt : vp_in (nI t) 60 := vp_in_nI (by omega) (by decide)
  obtain ⟨e1, e2, e3⟩ := hU t ct
  have e1' : ya_unset (ys_unset v U) t = un_yv (y t) := e1
  have fin : ∀ z, vp_nar .byte z.toInt8.toInt32 = un_yv (y t ||| o) → cy_reach_32 post (nI t) (un_yv (y t)) z (nI t) (ys_unset v U) := by
    intro z hz
    rw [uy_reach_32, cl, hz]
    refine ⟨vt, nm_e ⟨vt, ?_⟩⟩
    rw [us_us, pk_us]
    refine br_c (fun q => h _ _ (un_SY_up hU ct ho h1) (Or.inl rfl) (fun _ => rfl)) (fun q => h _ _ (un_SY_up hU ct ho h1) (Or.inr rfl) (fun w => absurd (by rw [w]) q))
  refine ⟨vt, nm_r (show _ = un_yv (y t) by rw [cl]; exact e1') ?_⟩
  rcases e3 with z | z
  · refine br_f (by rw [z]; decide) (fin _ ?_)
    rw [z, Nat.zero_or]
    unfold un_yv
    rw [if_neg (by omega)]
    exact nb_64 _ (by omega)
  · obtain ⟨a1, a2, a3, a4⟩ := un_yv_or e2 z ho h1
    refine br_t ?_ (fin _ ?_)
    · unfold un_yv
      rw [if_neg (by omega)]
      exact nI_pos' (by omega)
    · rw [a1, a2]
      exact nb_64 _ a3
theorem un_mk1 : ∀ m, m < 64 → ∀ a, a < 6 → nI m &&& (nI (2 ^ a) ^^^ (-1)) = nI (((64 + m) &&& (127 - 2 ^ a)) - 64) := by decide +kernel
theorem un_mk2 : ∀ m, m < 64 → ∀ a, a < 6 → ∀ c, c < 6 → ((64 + m) &&& (127 - 2 ^ a)) &&& (127 - 2 ^ c) = (64 + m) &&& (127 - (2 ^ a ||| 2 ^ c)) := by decide +kernel
theorem un_mk3 : ∀ m, m < 64 → ∀ a, a < 6 → ∀ c, c < 6 → nI m &&& ((nI (2 ^ a) ||| nI (2 ^ c)) ^^^ (-1)) = nI (((64 + m) &&& (127 - (2 ^ a ||| 2 ^ c))) - 64) := by decide +kernel
theorem un_mk0 : ∀ m, m < 64 → ∀ a, a < 6 → 64 ≤ (64 + m) &&& (127 - 2 ^ a) ∧ (64 + m) &&& (127 - 2 ^ a) < 128 := by decide +kernel
theorem un_o_ge {K A C : Nat → Int32} {i w : Nat} (hw : w < 128) (h : 64 ≤ w) : 64 ≤ un_o K A C i w := by
  have : ∀ w, w < 128 → 64 ≤ w → w.testBit 6 = true := by decide +kernel
  exact un_64 un_o_lt (un_o6 (this w hw h))
theorem ysets {post : Int32 → Prop} {k : Int32} (h1 : ln_set k → post 1) (h0 : ¬ ln_set k → post 0) : wpY_sets post k := by
  unfold wpY_sets
  refine br_c (fun a => h1 (Or.inl a)) (fun a => br_c (fun b => h1 (Or.inr (Or.inl b))) (fun b => br_c (fun c => h1 (Or.inr (Or.inr (Or.inl c)))) (fun c => br_c (fun d => h1 (Or.inr (Or.inr (Or.inr (Or.inl d))))) (fun d => br_c (fun e => h0 ?_) (fun e => br_c (fun f => h0 ?_) (fun f => h1 (Or.inr (Or.inr (Or.inr (Or.inr (comp_rng.mpr ⟨e, f⟩)))))))))))
  · rintro (z | z | z | z | z)
    · exact a z
    · exact b z
    · exact c z
    · exact d z
    · exact (comp_rng.mp z).1 e
  · rintro (z | z | z | z | z)
    · exact a z
    · exact b z
    · exact c z
    · exact d z
    · exact (comp_rng.mp z).2 f
def un_YS (K A C : Nat → Int32) (n i w : Nat) (y y' : Nat → Nat) : Prop := ∀ t, t < n → ∀ b, (y' t).testBit b = true ↔ (y t).testBit b = true ∨ ∃ j o, un_Y K A C n i w j o ∧ st_ch K n j = t ∧ o.testBit b = true
def un_sat (K A C : Nat → Int32) (n i w : Nat) (y : Nat → Nat) : Prop := ∀ j o, un_Y K A C n i w j o → ∀ b, o.testBit b = true → (y (st_ch K n j)).testBit b = true
/-- BREAK: outwards to the LOOP -/
theorem yr_84 {post : Int32 → SY → Prop} {v : SY} {U : Nat → Int32} {n l i : Nat} {x3 : Int32} (T : sy_st v n) (hi : i < n) (hl : (st_s (ya_kind v) i).find? (fun b => ya_kind v b == 4) = some l)
    (h : wpY_reach (fun r u => (narrow .boolean (.int r) = .int r ∧ post r u)) (ys_unset v U) (nI (st_e (ya_kind v) l n + 1)) x3) :
    ∀ (L : List Nat) (b : Nat) (r : List Nat), st_s (ya_kind v) i = L ++ b :: r → (b :: r).find? (fun b => ya_kind v b == 4) = some l → ∀ m, r.length + 1 ≤ m → cy_spread_84 post x3 (ys_unset v U) m (nI b) := by
  have n60 := T.2.1.1
  intro L b r
  induction r generalizing L b with
  | nil =>
    intro e hf m hm
    obtain ⟨m, rfl⟩ : ∃ q, m = q + 1 := ⟨m - 1, by simp at hm; omega⟩
    have bm := st_lt (K := ya_kind v) (i := i) (b := b) (by rw [e]; simp)
    have k4 : ya_kind v b = 4 := by
      by_cases z : ya_kind v b = 4
      · exact z
      · rw [List.find?_cons, show (ya_kind v b == 4) = false from by simp [z]] at hf
        cases hf
    have eb : l = b := by
      rw [List.find?_cons, show (ya_kind v b == 4) = true from by simp [k4]] at hf
      injection hf with q; exact q.symm
    subst eb
    obtain ⟨p1, p2, p3, p4, p5⟩ := un_opn T.2.1 (show l < n by omega) (Or.inr (Or.inr (Or.inl k4)))
    rw [uy_spread_84, nI_clamp (by omega)]
    exact ⟨vp_in_nI (by omega) (by decide), br_t k4 (ye_endOf (v := ys_unset v U) T.1 n60 T.2.1.2.2.1 p2 p3 p4 (nm_r (nI_1 _) h))⟩
  | cons c r ih =>
    intro e hf m hm
    rw [List.length_cons] at hm
    obtain ⟨m, rfl⟩ : ∃ q, m = q + 1 := ⟨m - 1, by omega⟩
    have bm := st_lt (K := ya_kind v) (i := i) (b := b) (by rw [e]; simp)
    rw [uy_spread_84, nI_clamp (by omega)]
    refine ⟨vp_in_nI (by omega) (by decide), ?_⟩
    by_cases k4 : ya_kind v b = 4
    · have eb : l = b := by
        rw [List.find?_cons, show (ya_kind v b == 4) = true from by simp [k4]] at hf
        injection hf with q; exact q.symm
      subst eb
      obtain ⟨p1, p2, p3, p4, p5⟩ := un_opn T.2.1 (show l < n by omega) (Or.inr (Or.inr (Or.inl k4)))
      exact br_t k4 (ye_endOf (v := ys_unset v U) T.1 n60 T.2.1.2.2.1 p2 p3 p4 (nm_r (nI_1 _) h))
    · rw [List.find?_cons, show (ya_kind v b == 4) = false from by simp [k4]] at hf
      have sb := st_sfx e
      exact br_f k4 (ye_opener (v := ys_unset v U) n60 T.2.1.2.2.1 (by omega) sb (ih (L ++ [b]) c (by rw [e]; simp) hf m (by omega)))
theorem yr_141 {post : Int32 → SY → Prop} {v : SY} {n i w : Nat} (T : sy_st v n) (hi : i < n) (k6 : ya_kind v i = 6) (hw : w < 128) (hw1 : 64 ≤ w) {y : Nat → Nat}
    (h : ∀ U' y' f, un_SY U' y' n → (∀ t, t < n → ∀ b, (y' t).testBit b = true ↔ (y t).testBit b = true ∨ ∃ q, q < n ∧ un_pt (ya_kind v) i q ∧ st_ch (ya_kind v) n (q + 1) = t ∧ (if ya_kind v q = 8 then un_o (ya_kind v) (ya_opA v) (ya_opC v) q w else w).testBit b = true) → un_fl f →
      ((∀ q, q < n → un_pt (ya_kind v) i q → ∀ b, (if ya_kind v q = 8 then un_o (ya_kind v) (ya_opA v) (ya_opC v) q w else w).testBit b = true → (y (st_ch (ya_kind v) n (q + 1))).testBit b = true) → f = 0) → post f (ys_unset v U')) :
    ∀ d j U y' f, j + d = st_e (ya_kind v) i n + 1 → i < j → un_SY U y' n → un_fl f →
    ((∀ q, q < n → un_pt (ya_kind v) i q → ∀ b, (if ya_kind v q = 8 then un_o (ya_kind v) (ya_opA v) (ya_opC v) q w else w).testBit b = true → (y (st_ch (ya_kind v) n (q + 1))).testBit b = true) → f = 0 ∧ ∀ t, t < n → y' t = y t) →
    (∀ t, t < n → ∀ b, (y' t).testBit b = true ↔ (y t).testBit b = true ∨ ∃ q, q < j ∧ q < n ∧ un_pt (ya_kind v) i q ∧ st_ch (ya_kind v) n (q + 1) = t ∧ (if ya_kind v q = 8 then un_o (ya_kind v) (ya_opA v) (ya_opC v) q w else w).testBit b = true) →
    ((st_P (ya_kind v) i j ∧ j < st_e (ya_kind v) i n → ∀ m, d + 1 < m → cy_spread_141 post (nI i) (nI (w - 64)) m f (nI j) (ys_unset v U)) ∧ (j = st_e (ya_kind v) i n → ∀ m, 0 < m → cy_spread_141 post (nI i) (nI (w - 64)) m f (-1) (ys_unset v U))) := by
  have n60 := T.2.1.1
  have W := T.2.1
  have hop : st_op (ya_kind v i) := Or.inr (Or.inr (Or.inr k6))
  obtain ⟨p1, p2, p3, p4, p5⟩ := un_opn W hi hop
  have pe : ∀ q, q < n → un_pt (ya_kind v) i q → q < st_e (ya_kind v) i n := by
    intro q hq a
    obtain ⟨r, er, _, _, _⟩ := un_hdo a.1
    have := (st_e_of W.2.2.1 W.2.1 (l := []) (Nat.le_of_lt hq) er).1
    by_cases z : q = st_e (ya_kind v) i n
    · have s := a.2
      rw [z, p3] at s
      exact absurd s (by decide)
    · omega
  intro d
  induction d using Nat.strongRecOn with
  | _ d ih =>
    intro j U y' f hj hij hU hf hsat hy
    refine ⟨fun hP m hm => ?_, fun he m hm => ?_⟩
    · obtain ⟨m, rfl⟩ : ∃ q, m = q + 1 := ⟨m - 1, by omega⟩
      obtain ⟨⟨hP1, hP2⟩, hje⟩ := hP
      have cj : (nI j).toNatClampNeg = j := nI_clamp (by omega)
      have vj : vp_in (nI j) 60 := vp_in_nI (by omega) (by decide)
      have nj3 : ¬ ya_kind v j = 3 := by
        intro k3
        obtain ⟨o', r', e', k'⟩ := W.2.2.2.1 j (by omega) k3
        rw [e'] at hP1
        have : o' = i := by simpa using hP1
        rw [this, k6] at k'
        exact absurd k' (by decide)
      have pt : un_pt (ya_kind v) i j := ⟨hP1, hP2.resolve_left nj3⟩
      have nx : j + 1 < n := by omega
      have step : ∀ o, 64 ≤ o → o < 128 → o = (if ya_kind v j = 8 then un_o (ya_kind v) (ya_opA v) (ya_opC v) j w else w) → cy_spread_185 post (cy_spread_141 post (nI i) (nI (w - 64)) m) (nI i) (nI (w - 64)) f (nI j) (nI (o - 64)) (ys_unset v U) := by
        intro o o1 o2 oe
        rw [uy_spread_185, nI_1]
        refine yr_reach T hU nx o2 o1 (fun U' f' hU' hf' hs' => nm_e ?_)
        have hf2 := fl_or hf hf'
        have hsat2 : (∀ q, q < n → un_pt (ya_kind v) i q → ∀ b, (if ya_kind v q = 8 then un_o (ya_kind v) (ya_opA v) (ya_opC v) q w else w).testBit b = true → (y (st_ch (ya_kind v) n (q + 1))).testBit b = true) → (f ||| f') = 0 ∧ ∀ t, t < n → un_up y' (st_ch (ya_kind v) n (j + 1)) o t = y t := by
          intro hs
          obtain ⟨f0, yy⟩ := hsat hs
          have ct := (st_ch_ok W n (j + 1) nx (by omega)).1
          have ab : y' (st_ch (ya_kind v) n (j + 1)) ||| o = y' (st_ch (ya_kind v) n (j + 1)) := by
            rw [yy _ ct]
            exact un_absorb (fun b hb => hs j (by omega) pt b (by rw [← oe]; exact hb))
          refine ⟨by rw [f0, hs' ab]; decide, fun t ht => ?_⟩
          unfold un_up
          by_cases z : t = st_ch (ya_kind v) n (j + 1)
          · rw [if_pos z, z, ab, yy _ ct]
          · rw [if_neg z]; exact yy t ht
        have hy2 : ∀ k, j < k → (∀ q, j < q → q < k → q < n → ¬ un_pt (ya_kind v) i q) → ∀ t, t < n → ∀ b, (un_up y' (st_ch (ya_kind v) n (j + 1)) o t).testBit b = true ↔ (y t).testBit b = true ∨ ∃ q, q < k ∧ q < n ∧ un_pt (ya_kind v) i q ∧ st_ch (ya_kind v) n (q + 1) = t ∧ (if ya_kind v q = 8 then un_o (ya_kind v) (ya_opA v) (ya_opC v) q w else w).testBit b = true := by
          intro k hk hnp t ht b
          rw [un_up_t, hy t ht b]
          constructor
          · rintro ((a | ⟨q, a1, a2, a3, a4, a5⟩) | ⟨a, c⟩)
            · exact Or.inl a
            · exact Or.inr ⟨q, by omega, a2, a3, a4, a5⟩
            · exact Or.inr ⟨j, hk, by omega, pt, a.symm, by rw [← oe]; exact c⟩
          · rintro (a | ⟨q, a1, a2, a3, a4, a5⟩)
            · exact Or.inl (Or.inl a)
            · rcases Nat.lt_trichotomy q j with z | z | z
              · exact Or.inl (Or.inr ⟨q, z, a2, a3, a4, a5⟩)
              · subst z; exact Or.inr ⟨a4.symm, by rw [oe]; exact a5⟩
              · exact absurd a3 (hnp q z a1 a2)
        refine sy_part (v := ys_unset v U') T hi hop (Or.inr ⟨⟨hP1, hP2⟩, by omega⟩) (fun j' b1 b2 b3 g => ?_) (fun g => ?_)
        · exact (ih (st_e (ya_kind v) i n + 1 - j') (by show _ - j' < d; omega) j' U' _ (f ||| f') (by show j' + (st_e (ya_kind v) i n + 1 - j') = _; have : j' < st_e (ya_kind v) i n := b2; omega) (by omega) hU' hf2 hsat2 (hy2 j' b1 (fun q c1 c2 c3 c4 => g q c1 c2 ⟨c4.1, Or.inr c4.2⟩))).1 ⟨b3, b2⟩ m (by have : j' < st_e (ya_kind v) i n := b2; omega)
        · exact (ih 1 (by omega) (st_e (ya_kind v) i n) U' _ (f ||| f') (by omega) (by omega) hU' hf2 hsat2 (hy2 _ hje (fun q c1 c2 c3 c4 => g q c1 c2 ⟨c4.1, Or.inr c4.2⟩))).2 rfl m (by omega)
      have eK : ya_kind (ys_unset v U) = ya_kind v := rfl
      rw [uy_spread_141, cj, eK]
      refine br_f (nI_pos (by omega)) ⟨vj, br_c (fun k8 => ⟨vj, vj, ?_⟩) (fun k8 => step w hw1 hw (by rw [if_neg k8]))⟩
      obtain ⟨a, ha, ea⟩ := (T.2.2.2.2.1 j (by omega)).2.2.1 (Or.inl k8)
      obtain ⟨c, hc, ec⟩ := (T.2.2.2.2.1 j (by omega)).2.2.2.1 (Or.inl k8)
      have ea' : ya_opA (ys_unset v U) j = nI a := ea
      have ec' : ya_opC (ys_unset v U) j = nI c := ec
      have eo : un_o (ya_kind v) (ya_opA v) (ya_opC v) j w = w &&& (127 - (2 ^ a ||| 2 ^ c)) := by
        unfold un_o un_s
        rw [if_pos (Or.inl k8), ea, ec, un_b_nI ha, un_b_nI hc]
      rw [ea', ec', un_shl a ha, un_shl c hc, un_mk3 (w - 64) (by omega) a ha c hc, show 64 + (w - 64) = w by omega, ← eo]
      exact step _ (un_o_ge hw hw1) un_o_lt (by rw [if_pos k8])
    · obtain ⟨m, rfl⟩ : ∃ q, m = q + 1 := ⟨m - 1, by omega⟩
      rw [uy_spread_141]
      refine br_t (by decide) ⟨fl_nar hf, h U y' f hU (fun t ht b => ?_) hf (fun hs => (hsat hs).1)⟩
      rw [hy t ht b]
      constructor
      · rintro (a | ⟨q, _, a⟩)
        · exact Or.inl a
        · exact Or.inr ⟨q, a⟩
      · rintro (a | ⟨q, a1, a2, a3⟩)
        · exact Or.inl a
        · exact Or.inr ⟨q, by rw [he]; exact pe q a1 a2, a1, a2, a3⟩
