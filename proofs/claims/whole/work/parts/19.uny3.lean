/-! UNSET: Y's rounds -/
theorem ys_53 {post : Int32 → SY → Prop} {v : SY} {U : Nat → Int32} {y : Nat → Nat} {n i w : Nat} (T : sy_st v n) (hU : un_SY U y n) (hi : i < n) (hr : st_rest (ya_kind v) i) (hw : w < 128) (hw1 : 64 ≤ w)
    (h : ∀ U' y' f, un_SY U' y' n → un_YS (ya_kind v) (ya_opA v) (ya_opC v) n i w y y' → un_fl f → (un_sat (ya_kind v) (ya_opA v) (ya_opC v) n i w y → f = 0) → post f (ys_unset v U')) :
    cy_spread_53 post (nI i) (ya_kind v i) (nI (un_o (ya_kind v) (ya_opA v) (ya_opC v) i w - 64)) (ys_unset v U) := by
  have n60 := T.2.1.1
  have W := T.2.1
  have o1 : 64 ≤ un_o (ya_kind v) (ya_opA v) (ya_opC v) i w := un_o_ge hw hw1
  have o2 : un_o (ya_kind v) (ya_opA v) (ya_opC v) i w < 128 := un_o_lt
  have none : (∀ j o, ¬ un_Y (ya_kind v) (ya_opA v) (ya_opC v) n i w j o) → post 0 (ys_unset v U) := by
    intro hn
    refine h U y 0 hU (fun t ht b => ⟨Or.inl, ?_⟩) (Or.inl rfl) (fun _ => rfl)
    rintro (a | ⟨j, o, a, _⟩)
    · exact a
    · exact absurd a (hn j o)
  have one : ∀ j, (∀ j' o, un_Y (ya_kind v) (ya_opA v) (ya_opC v) n i w j' o ↔ j' = j ∧ o = un_o (ya_kind v) (ya_opA v) (ya_opC v) i w) → ∀ U' f, un_SY U' (un_up y (st_ch (ya_kind v) n j) (un_o (ya_kind v) (ya_opA v) (ya_opC v) i w)) n → un_fl f → (y (st_ch (ya_kind v) n j) ||| un_o (ya_kind v) (ya_opA v) (ya_opC v) i w = y (st_ch (ya_kind v) n j) → f = 0) → post f (ys_unset v U') := by
    intro j hj U' f hU' hf hs
    refine h U' _ f hU' (fun t ht b => ?_) hf (fun sat => hs (un_absorb (fun b hb => sat j _ ((hj j _).mpr ⟨rfl, rfl⟩) b hb)))
    rw [un_up_t]
    constructor
    · rintro (a | ⟨a, c⟩)
      · exact Or.inl a
      · exact Or.inr ⟨j, _, (hj j _).mpr ⟨rfl, rfl⟩, a.symm, c⟩
    · rintro (a | ⟨j', o, a, c, d⟩)
      · exact Or.inl a
      · obtain ⟨a1, a2⟩ := (hj j' o).mp a
        rw [a1] at c; rw [a2] at d
        exact Or.inr ⟨c.symm, d⟩
  have two : ∀ j k, j < n → k < n → (∀ j' o, un_Y (ya_kind v) (ya_opA v) (ya_opC v) n i w j' o ↔ (j' = j ∨ j' = k) ∧ o = un_o (ya_kind v) (ya_opA v) (ya_opC v) i w) →
      ∀ U' f f', un_SY U' (un_up (un_up y (st_ch (ya_kind v) n j) (un_o (ya_kind v) (ya_opA v) (ya_opC v) i w)) (st_ch (ya_kind v) n k) (un_o (ya_kind v) (ya_opA v) (ya_opC v) i w)) n → un_fl f → un_fl f' → (y (st_ch (ya_kind v) n j) ||| un_o (ya_kind v) (ya_opA v) (ya_opC v) i w = y (st_ch (ya_kind v) n j) → f = 0) →
      ((un_up y (st_ch (ya_kind v) n j) (un_o (ya_kind v) (ya_opA v) (ya_opC v) i w)) (st_ch (ya_kind v) n k) ||| un_o (ya_kind v) (ya_opA v) (ya_opC v) i w = (un_up y (st_ch (ya_kind v) n j) (un_o (ya_kind v) (ya_opA v) (ya_opC v) i w)) (st_ch (ya_kind v) n k) → f' = 0) → post (f ||| f') (ys_unset v U') := by
    intro j k jn kn hj U' f f' hU' hf hf' hs hs'
    refine h U' _ (f ||| f') hU' (fun t ht b => ?_) (fl_or hf hf') (fun sat => ?_)
    · rw [un_up_t, un_up_t]
      constructor
      · rintro ((a | ⟨a, c⟩) | ⟨a, c⟩)
        · exact Or.inl a
        · exact Or.inr ⟨j, _, (hj j _).mpr ⟨Or.inl rfl, rfl⟩, a.symm, c⟩
        · exact Or.inr ⟨k, _, (hj k _).mpr ⟨Or.inr rfl, rfl⟩, a.symm, c⟩
      · rintro (a | ⟨j', o, a, c, d⟩)
        · exact Or.inl (Or.inl a)
        · obtain ⟨a1, a2⟩ := (hj j' o).mp a
          rw [a2] at d
          rcases a1 with a1 | a1
          · rw [a1] at c; exact Or.inl (Or.inr ⟨c.symm, d⟩)
          · rw [a1] at c; exact Or.inr ⟨c.symm, d⟩
    · have s1 := un_absorb (fun b hb => sat j _ ((hj j _).mpr ⟨Or.inl rfl, rfl⟩) b hb)
      have s2 := un_absorb (fun b hb => sat k _ ((hj k _).mpr ⟨Or.inr rfl, rfl⟩) b hb)
      have e : (un_up y (st_ch (ya_kind v) n j) (un_o (ya_kind v) (ya_opA v) (ya_opC v) i w)) (st_ch (ya_kind v) n k) = y (st_ch (ya_kind v) n k) := by
        unfold un_up
        split
        · rename_i z; rw [z]; exact s1
        · rfl
      rw [hs s1, hs' (by rw [e]; exact s2)]
      decide
  rw [uy_spread_53]
  refine br_c (fun k1 => none (fun j o hY => ?_)) (fun n1 => br_c (fun k17 => none (fun j o hY => ?_)) (fun n17 => br_c (fun k18 => none (fun j o hY => ?_)) (fun n18 => br_c (fun k5 => ?_) (fun n5 => br_c (fun k6 => ?_) (fun n6 => ?_)))))
  · rcases hY with ⟨k, _⟩ | ⟨k, _⟩ | ⟨a, _⟩
    · rw [k1] at k; exact absurd k (by decide)
    · rw [k1] at k; exact absurd k (by decide)
    · exact a k1
  · rcases hY with ⟨k, _⟩ | ⟨k, _⟩ | ⟨_, _, _, a, _⟩
    · rw [k17] at k; exact absurd k (by decide)
    · rw [k17] at k; exact absurd k (by decide)
    · exact a k17
  · rcases hY with ⟨k, _⟩ | ⟨k, _⟩ | ⟨_, _, _, _, a, _⟩
    · rw [k18] at k; exact absurd k (by decide)
    · rw [k18] at k; exact absurd k (by decide)
    · exact a k18
  · -- BREAK
    have hex : ∃ l, (st_s (ya_kind v) i).find? (fun b => ya_kind v b == 4) = some l := by
      obtain ⟨b, hb, k4⟩ := W.2.2.2.2.2 i hi k5
      cases e : (st_s (ya_kind v) i).find? (fun b => ya_kind v b == 4) with
      | none =>
        have := List.find?_eq_none.mp e b hb
        simp [k4] at this
      | some l => exact ⟨l, rfl⟩
    obtain ⟨l, hl⟩ := hex
    have lm := List.mem_of_find?_eq_some hl
    have lk : ya_kind v l = 4 := by have := List.find?_some hl; simpa using this
    obtain ⟨p1, p2, _⟩ := un_out W hi lm (by rw [lk]; decide)
    cases e : st_s (ya_kind v) i with
    | nil => rw [e] at lm; cases lm
    | cons b r =>
      refine ye_opener (v := ys_unset v U) n60 W.2.2.1 hi e ⟨r.length + 1, ?_⟩
      refine yr_84 T hi hl ?_ [] b r e (by rw [← e]; exact hl) _ (Nat.le_refl _)
      refine yr_reach T hU p2 o2 o1 (fun U' f hU' hf hs => ⟨fl_nar hf, one _ (fun j' o => ?_) U' f hU' hf hs⟩)
      constructor
      · rintro (⟨_, ⟨l', hl', a⟩, c⟩ | ⟨k, _⟩ | ⟨_, a2, _⟩)
        · rw [hl] at hl'; injection hl' with z; rw [← z] at a
          exact ⟨a, c⟩
        · rw [k5] at k; exact absurd k (by decide)
        · exact absurd k5 a2
      · rintro ⟨a, c⟩
        exact Or.inl ⟨k5, ⟨l, hl, a⟩, c⟩
  · -- SELECT
    have hop : st_op (ya_kind v i) := Or.inr (Or.inr (Or.inr k6))
    obtain ⟨p1, p2, p3, p4, p5⟩ := un_opn W hi hop
    have ow : un_o (ya_kind v) (ya_opA v) (ya_opC v) i w = w := un_o_0 (un_s_0 (by rw [k6]; decide)) hw
    rw [ow]
    have fin : ∀ U' y' f, un_SY U' y' n → (∀ t, t < n → ∀ b, (y' t).testBit b = true ↔ (y t).testBit b = true ∨ ∃ q, q < n ∧ un_pt (ya_kind v) i q ∧ st_ch (ya_kind v) n (q + 1) = t ∧ (if ya_kind v q = 8 then un_o (ya_kind v) (ya_opA v) (ya_opC v) q w else w).testBit b = true) → un_fl f →
        ((∀ q, q < n → un_pt (ya_kind v) i q → ∀ b, (if ya_kind v q = 8 then un_o (ya_kind v) (ya_opA v) (ya_opC v) q w else w).testBit b = true → (y (st_ch (ya_kind v) n (q + 1))).testBit b = true) → f = 0) → post f (ys_unset v U') := by
      intro U' y' f hU' hy' hf hs
      refine h U' y' f hU' (fun t ht b => ?_) hf (fun sat => hs (fun q hq hp b hb => ?_))
      · rw [hy' t ht b]
        constructor
        · rintro (a | ⟨q, a1, a2, a3, a4⟩)
          · exact Or.inl a
          · refine Or.inr ⟨q + 1, _, Or.inr (Or.inl ⟨k6, q, a1, a2, rfl, rfl⟩), a3, ?_⟩
            rw [ow]; exact a4
        · rintro (a | ⟨j, o, a, c, d⟩)
          · exact Or.inl a
          · rcases a with ⟨k, _⟩ | ⟨_, q, a1, a2, a3, a4⟩ | ⟨_, _, a3, _⟩
            · rw [k6] at k; exact absurd k (by decide)
            · rw [a3] at c; rw [a4, ow] at d
              exact Or.inr ⟨q, a1, a2, c, d⟩
            · exact absurd k6 a3
      · exact sat (q + 1) _ (Or.inr (Or.inl ⟨k6, q, hq, hp, rfl, rfl⟩)) b (by rw [ow]; exact hb)
    have start : ∀ j, i < j → (∀ q, q < n → un_pt (ya_kind v) i q → ¬ q < j) → ∀ t, t < n → ∀ b, (y t).testBit b = true ↔ (y t).testBit b = true ∨ ∃ q, q < j ∧ q < n ∧ un_pt (ya_kind v) i q ∧ st_ch (ya_kind v) n (q + 1) = t ∧ (if ya_kind v q = 8 then un_o (ya_kind v) (ya_opA v) (ya_opC v) q w else w).testBit b = true := by
      intro j hj hq t ht b
      refine ⟨Or.inl, ?_⟩
      rintro (a | ⟨q, a1, a2, a3, _⟩)
      · exact a
      · exact absurd a1 (hq q a2 a3)
    have lowpt : ∀ j, (∀ k, i < k → k < j → ¬ st_P (ya_kind v) i k) → ∀ q, q < n → un_pt (ya_kind v) i q → ¬ q < j := by
      intro j g q hq hp hj
      obtain ⟨r, er, hiq, _, _⟩ := un_hdo hp.1
      exact g q hiq hj ⟨hp.1, Or.inr hp.2⟩
    refine sy_part (v := ys_unset v U) T hi hop (Or.inl rfl) (fun j' b1 b2 b3 g => ⟨st_e (ya_kind v) i n + 1 - j' + 2, ?_⟩) (fun g => ⟨1, ?_⟩)
    · have b2' : j' < st_e (ya_kind v) i n := b2
      exact (yr_141 T hi k6 hw hw1 fin (st_e (ya_kind v) i n + 1 - j') j' U y 0 (by omega) b1 hU (Or.inl rfl) (fun _ => ⟨rfl, fun _ _ => rfl⟩) (start j' b1 (lowpt j' g))).1 ⟨b3, b2⟩ _ (by omega)
    · exact (yr_141 T hi k6 hw hw1 fin 1 (st_e (ya_kind v) i n) U y 0 (by omega) (by omega) hU (Or.inl rfl) (fun _ => ⟨rfl, fun _ _ => rfl⟩) (start _ (by omega) (lowpt _ g))).2 rfl _ (by omega)
  · -- the others
    have nx : i + 1 < n := un_nx W hi (fun z => n1 z.1)
    rw [nI_1]
    refine yr_reach T hU nx o2 o1 (fun U' f hU' hf hs => br_c (fun k2 => ?_) (fun n2 => ?_))
    · -- IF
      have hop : st_op (ya_kind v i) := Or.inr (Or.inl k2)
      obtain ⟨p1, p2, p3, p4, p5⟩ := un_opn W hi hop
      have n4 : ¬ ya_kind v i = 4 := by rw [k2]; decide
      have ed : ∀ k, (∀ j, un_ot (ya_kind v) n i j ↔ j = k) → ∀ j' o, un_Y (ya_kind v) (ya_opA v) (ya_opC v) n i w j' o ↔ (j' = i + 1 ∨ j' = k) ∧ o = un_o (ya_kind v) (ya_opA v) (ya_opC v) i w := by
        intro k hk j' o
        constructor
        · rintro (⟨k', _⟩ | ⟨k', _⟩ | ⟨_, _, _, _, _, a | ⟨_, a⟩ | ⟨k', _⟩, c⟩)
          · exact absurd k' n5
          · exact absurd k' n6
          · exact ⟨Or.inl a, c⟩
          · exact ⟨Or.inr ((hk j').mp a), c⟩
          · exact absurd k' n4
        · rintro ⟨a | a, c⟩
          · exact Or.inr (Or.inr ⟨n1, n5, n6, n17, n18, Or.inl a, c⟩)
          · exact Or.inr (Or.inr ⟨n1, n5, n6, n17, n18, Or.inr (Or.inl ⟨k2, (hk j').mpr a⟩), c⟩)
      have go : ∀ k, k < n → (∀ j, un_ot (ya_kind v) n i j ↔ j = k) → cy_spread_259 post (nI i) (ya_kind v i) (nI (un_o (ya_kind v) (ya_opA v) (ya_opC v) i w - 64)) f (nI k) (ys_unset v U') := by
        intro k kn hk
        rw [uy_spread_259]
        refine yr_reach T hU' kn o2 o1 (fun U2 f2 hU2 hf2 hs2 => nm_e ?_)
        rw [uy_spread_273]
        exact br_f n4 ⟨fl_nar (fl_or hf hf2), two (i + 1) k nx kn (ed k hk) U2 f f2 hU2 hf hf2 hs hs2⟩
      refine sy_part (v := ys_unset v U') T hi hop (Or.inl rfl) (fun j' b1 b2 b3 g => br_t (nI_pos' (by have : j' < st_e (ya_kind v) i n := b2; omega)) ?_) (fun g => br_f (by decide) (ye_endOf (v := ys_unset v U') T.1 n60 W.2.2.1 p2 p3 p4 ?_))
      · have b2' : j' < st_e (ya_kind v) i n := b2
        have j3 : ya_kind v j' = 3 := by
          rcases b3.2 with z | z
          · exact z
          · obtain ⟨o', r', e', k'⟩ := W.2.2.2.2.1 j' (by omega) z
            have b31 : (st_s (ya_kind v) j').head? = some i := b3.1
            rw [e'] at b31
            have : o' = i := by simpa using b31
            rw [this, k2] at k'
            exact absurd k' (by decide)
        rw [nI_1]
        refine go (j' + 1) (by omega) (fun j => ?_)
        constructor
        · rintro (⟨e, e1, e2, e3, e4⟩ | ⟨z, _⟩)
          · rw [e4, un_else1 T.2.2.2.1 e1 e2 e3 (show j' < n by omega) j3 b3.1]
          · exact absurd ⟨j', by omega, j3, b3.1⟩ z
        · intro z; exact Or.inl ⟨j', by omega, j3, b3.1, z⟩
      · rw [nI_1]
        have nel : ¬ st_el (ya_kind v) i n := by
          rintro ⟨j, a, b, c⟩
          obtain ⟨r, er, hij, _, _⟩ := un_hdo c
          have := (st_e_of W.2.2.1 W.2.1 (l := []) (Nat.le_of_lt a) er).1
          have ne : j ≠ st_e (ya_kind v) i n := fun z => by rw [z, p3] at b; exact absurd b (by decide)
          exact g j hij (by show j < st_e (ya_kind v) i n; omega) ⟨c, Or.inl b⟩
        refine go _ (p5 (by rw [k2]; decide)).1 (fun j => ?_)
        constructor
        · rintro (⟨e, e1, e2, e3, e4⟩ | ⟨_, z⟩)
          · exact absurd ⟨e, e1, e2, e3⟩ nel
          · exact z
        · intro z; exact Or.inr ⟨nel, z⟩
    · rw [uy_spread_273]
      refine br_c (fun k4 => ?_) (fun n4 => ⟨fl_nar hf, one (i + 1) (fun j' o => ?_) U' f hU' hf hs⟩)
      · obtain ⟨p1, p2, p3, p4, p5⟩ := un_opn W hi (Or.inr (Or.inr (Or.inl k4)))
        refine ye_endOf (v := ys_unset v U') T.1 n60 W.2.2.1 p2 p3 p4 (nm_r (nI_1 _) (yr_reach T hU' (p5 (by rw [k4]; decide)).1 o2 o1 (fun U2 f2 hU2 hf2 hs2 => nm_e ⟨fl_nar (fl_or hf hf2), two (i + 1) _ nx (p5 (by rw [k4]; decide)).1 (fun j' o => ?_) U2 f f2 hU2 hf hf2 hs hs2⟩)))
        constructor
        · rintro (⟨k', _⟩ | ⟨k', _⟩ | ⟨_, _, _, _, _, a | ⟨k', _⟩ | ⟨_, a⟩, c⟩)
          · exact absurd k' n5
          · exact absurd k' n6
          · exact ⟨Or.inl a, c⟩
          · exact absurd k' n2
          · exact ⟨Or.inr a, c⟩
        · rintro ⟨a | a, c⟩
          · exact Or.inr (Or.inr ⟨n1, n5, n6, n17, n18, Or.inl a, c⟩)
          · exact Or.inr (Or.inr ⟨n1, n5, n6, n17, n18, Or.inr (Or.inr ⟨k4, a⟩), c⟩)
      · constructor
        · rintro (⟨k', _⟩ | ⟨k', _⟩ | ⟨_, _, _, _, _, a | ⟨k', _⟩ | ⟨k', _⟩, c⟩)
          · exact absurd k' n5
          · exact absurd k' n6
          · exact ⟨a, c⟩
          · exact absurd k' n2
          · exact absurd k' n4
        · rintro ⟨a, c⟩
          exact Or.inr (Or.inr ⟨n1, n5, n6, n17, n18, Or.inl a, c⟩)
theorem ys_spread {post : Int32 → SY → Prop} {v : SY} {U : Nat → Int32} {y : Nat → Nat} {n i : Nat} (T : sy_st v n) (hU : un_SY U y n) (hi : i < n) (hr : st_rest (ya_kind v) i) (hy : ¬ y i = 0)
    (h : ∀ U' y' f, un_SY U' y' n → un_YS (ya_kind v) (ya_opA v) (ya_opC v) n i (y i) y y' → un_fl f → (un_sat (ya_kind v) (ya_opA v) (ya_opC v) n i (y i) y → f = 0) → post f (ys_unset v U')) : wpY_spread post (ys_unset v U) (nI i) := by
  have n60 := T.2.1.1
  have ci : (nI i).toNatClampNeg = i := nI_clamp (by omega)
  have vi : vp_in (nI i) 60 := vp_in_nI (by omega) (by decide)
  obtain ⟨e1, w1, e3⟩ := hU i hi
  have w2 := e3.resolve_left hy
  have e1' : ya_unset (ys_unset v U) i = nI (y i - 64) := by
    show U i = _
    rw [e1]; unfold un_yv; rw [if_neg hy]
  have eK : ya_kind (ys_unset v U) = ya_kind v := rfl
  have k8 : ¬ ya_kind v i = 8 := by
    intro z
    rcases hr with r | ⟨r, _⟩
    · exact r (by rw [z]; decide)
    · rw [z] at r; exact absurd r (by decide)
  have key := ys_53 T hU hi hr w1 w2 h
  obtain ⟨L1, L2, L3, L4, L5, L6⟩ := T.2.2.2.2.1 i hi
  rw [uy_spread, ci, eK, e1']
  refine ⟨vi, nm_e ⟨vi, nm_e (ysets (fun s => br_f (by decide) ⟨vi, ?_⟩) (fun s => br_t rfl ?_))⟩⟩
  · obtain ⟨a, ha, ea⟩ := L3 s
    have ea' : ya_opA (ys_unset v U) i = nI a := ea
    rw [ea', un_shl a ha, un_mk1 (y i - 64) (by omega) a ha, show 64 + (y i - 64) = y i by omega]
    refine nm_e ?_
    rw [uy_spread_34, ci]
    obtain ⟨b1, b2⟩ := un_mk0 (y i - 64) (by omega) a ha
    rw [show 64 + (y i - 64) = y i by omega] at b1 b2
    refine br_c (fun k11 => ⟨vi, ?_⟩) (fun n11 => ?_)
    · obtain ⟨c, hc, ec⟩ := L4 (Or.inr k11)
      have ec' : ya_opC (ys_unset v U) i = nI c := ec
      rw [ec', un_shl c hc, un_mk1 _ (by omega) c hc, show 64 + ((y i &&& (127 - 2 ^ a)) - 64) = y i &&& (127 - 2 ^ a) by omega]
      have m2 := un_mk2 (y i - 64) (by omega) a ha c hc
      rw [show 64 + (y i - 64) = y i by omega] at m2
      rw [m2]
      have eo : un_o (ya_kind v) (ya_opA v) (ya_opC v) i (y i) = y i &&& (127 - (2 ^ a ||| 2 ^ c)) := by
        unfold un_o un_s
        rw [if_pos (Or.inr k11), ea, ec, un_b_nI ha, un_b_nI hc]
      rw [← eo]
      exact nm_e key
    · have eo : un_o (ya_kind v) (ya_opA v) (ya_opC v) i (y i) = y i &&& (127 - 2 ^ a) := by
        unfold un_o un_s
        rw [if_neg (fun z => z.elim k8 n11), if_pos s, ea, un_b_nI ha]
      rw [← eo]
      exact key
  · have n11 : ¬ ya_kind v i = 11 := fun z => s (Or.inr (Or.inl z))
    rw [un_o_0 (un_s_0 s) w1] at key
    rw [uy_spread_34]
    exact br_f n11 key
