/-! UNSET: X's pass -/
theorem ss_ss {u : SX} {s s' : Nat → Int32} : xs_surelySet (xs_surelySet u s) s' = xs_surelySet u s' := Eq.trans (b := (xb_lineCount u, xb_functionCount u, xb_foundLine u, xb_state u, xb_time u, xb_endingPanic u, xb_outputCount u, xb_channelCount u, xb_goroutineCount u, xb_waitsBegun u, xb_running u, xb_queueLength u, xb_kinds u, xb_argA u, xb_argB u, xb_argC u, xb_blockOf u, xb_endOf u, xb_elseOf u, xb_functionLine u, s', xb_outputs u, xb_capacity u, xb_fill u, xb_closed u, xb_held u, xb_status u, xb_depth u, xb_waitOrder u, xb_waitUntil u, xb_queue u, xb_slotWish u, xb_slotLine u, xb_position u, xb_mode u, xb_panicOf u, xb_noteCount u, xb_noteFunction u, xb_noteValues u, xb_variables u)) rfl rfl
theorem ss_0 {u : SX} : u = xs_surelySet u (xa_surelySet u) := rfl
def un_SX (S : Nat → Int32) (x : Nat → Nat) (n : Nat) : Prop := ∀ t, t < n → S t = nI (127 - x t) ∧ x t < 128
def un_up (x : Nat → Nat) (m o : Nat) : Nat → Nat := fun t => if t = m then x t ||| o else x t
theorem un_up_t {x : Nat → Nat} {m o t b : Nat} : (un_up x m o t).testBit b = true ↔ (x t).testBit b = true ∨ (t = m ∧ o.testBit b = true) := by
  unfold un_up
  by_cases e : t = m
  · rw [if_pos e, Nat.testBit_or, Bool.or_eq_true]; simp [e]
  · rw [if_neg e]; simp [e]
theorem un_dm : ∀ a, a < 128 → ∀ b, b < 128 → (127 - a) &&& (127 - b) = 127 - (a ||| b) := by decide +kernel
theorem un_SX_up {S : Nat → Int32} {x : Nat → Nat} {n m o : Nat} (h : un_SX S x n) (hm : m < n) (ho : o < 128) : un_SX (upd S m (S m &&& nI (127 - o))) (un_up x m o) n := by
  intro t ht
  unfold un_up
  by_cases e : t = m
  · subst e
    rw [pk_us, if_pos rfl, (h t ht).1, nx_and, un_dm _ (h t ht).2 _ ho]
    exact ⟨rfl, un_or128 (h t ht).2 ho⟩
  · rw [pk_un e, if_neg e]
    exact h t ht
/-- the state's values after what line i passes on -/
def un_XS (K A C : Nat → Int32) (n i w : Nat) (x x' : Nat → Nat) : Prop := ∀ t, t < n → ∀ b, (x' t).testBit b = true ↔ (x t).testBit b = true ∨ ∃ o, un_X K A C n i w t o ∧ o.testBit b = true
theorem xr_37 {post : SX → Prop} {u : SX} {S : Nat → Int32} {x : Nat → Nat} {n m o : Nat} (n60 : n ≤ 60) (hS : un_SX S x n) (hm : m < n) (ho : o < 128) (h : ∀ S', un_SX S' (un_up x m o) n → post (xs_surelySet u S')) : cx_reach_37 post (nI (127 - o)) (nI m) (xs_surelySet u S) := by
  have cm : (nI m).toNatClampNeg = m := nI_clamp (by omega)
  rw [ux_reach_37, cm]
  refine ⟨vp_in_nI (by omega) (by decide), vp_in_nI (by omega) (by decide), nm_e ?_⟩
  rw [ss_ss]
  exact h _ (un_SX_up hS hm ho)
theorem xr_170 {post : SX → Prop} {u : SX} {S : Nat → Int32} {x : Nat → Nat} {n m o : Nat} (n60 : n ≤ 60) (hS : un_SX S x n) (hm : m < n) (ho : o < 128) (h : ∀ S', un_SX S' (un_up x m o) n → post (xs_surelySet u S')) : cx_passOn_170 post (nI (127 - o)) (nI m) (xs_surelySet u S) := by
  have cm : (nI m).toNatClampNeg = m := nI_clamp (by omega)
  rw [ux_passOn_170, cm]
  refine ⟨vp_in_nI (by omega) (by decide), vp_in_nI (by omega) (by decide), nm_e ?_⟩
  rw [ss_ss]
  exact h _ (un_SX_up hS hm ho)
theorem xr_reach {post : SX → Prop} {u : SX} {S : Nat → Int32} {x : Nat → Nat} {n j o : Nat} (T : sx_st u n) (hS : un_SX S x n) (hj : j < n) (ho : o < 128) (h : ∀ S', un_SX S' (un_up x (un_xn (xa_kinds u) n j) o) n → post (xs_surelySet u S')) : wpX_reach post (xs_surelySet u S) (nI j) (nI (127 - o)) := by
  have n60 := T.2.1.1
  have W := T.2.1
  have cj : (nI j).toNatClampNeg = j := nI_clamp (by omega)
  have vj : vp_in (nI j) 60 := vp_in_nI (by omega) (by decide)
  have r25 : xa_kinds u j = 3 ∨ st_sec (xa_kinds u j) → cx_reach_25 post (nI j) (nI (127 - o)) (xs_surelySet u S) := by
    intro c
    have hm : st_mk (xa_kinds u j) := c.elim (fun a => Or.inr (Or.inl a)) (fun a => Or.inr (Or.inr a))
    obtain ⟨q, r, e, hq, hop, hr⟩ := st_mkhd W.2.2.1 hj hm
    obtain ⟨e1, e2, e3⟩ := sx_end T (by omega : q < n) hop
    have ex : un_xn (xa_kinds u) n j = st_e (xa_kinds u) q n := by unfold un_xn; rw [if_pos c, e]
    rw [ex] at h
    have eb : xa_blockOf (xs_surelySet u S) j = nI q := by
      have := T.2.2.2.2.1.1 j hj
      rw [e] at this
      exact this
    rw [ux_reach_25, cj, eb]
    refine ⟨vj, vp_in_nI (by omega) (by decide), nm_r (show _ = nI (st_e (xa_kinds u) q n) by rw [nI_clamp (by omega)]; exact e1) ?_⟩
    exact xr_37 n60 hS e3 ho h
  have r37 : ¬ (xa_kinds u j = 3 ∨ st_sec (xa_kinds u j)) → cx_reach_37 post (nI (127 - o)) (nI j) (xs_surelySet u S) := by
    intro c
    have ex : un_xn (xa_kinds u) n j = j := by unfold un_xn; rw [if_neg c]
    rw [ex] at h
    exact xr_37 n60 hS hj ho h
  rw [ux_reach, cj]
  exact ⟨vj, br_c (fun k3 => r25 (Or.inl k3)) (fun k3 => ⟨vj, xk_sec (fun s => br_f (by decide) (r25 (Or.inr s))) (fun s => br_t rfl (r37 (fun z => z.elim k3 s)))⟩)⟩
theorem xr_secs {post : SX → Prop} {u : SX} {n i o : Nat} (T : sx_st u n) (hi : i < n) (k6 : xa_kinds u i = 6) (ho : o < 128) {x : Nat → Nat} (h : ∀ S' x', un_SX S' x' n → (∀ t, t < n → ∀ b, (x' t).testBit b = true ↔ (x t).testBit b = true ∨ (un_pt (xa_kinds u) i t ∧ o.testBit b = true)) → post (xs_surelySet u S')) :
    ∀ d j S x', j + d = st_e (xa_kinds u) i n → i < j → un_SX S x' n → (∀ t, t < n → ∀ b, (x' t).testBit b = true ↔ (x t).testBit b = true ∨ (t < j ∧ un_pt (xa_kinds u) i t ∧ o.testBit b = true)) → ∀ m, d < m → cx_reachSections_4 post (nI i) (nI (127 - o)) m (nI j) (xs_surelySet u S) := by
  have n60 := T.2.1.1
  have W := T.2.1
  obtain ⟨e1, e2, e3⟩ := sx_end T hi (Or.inr (Or.inr (Or.inr k6)))
  have e1' : ∀ S, xa_endOf (xs_surelySet u S) i = nI (st_e (xa_kinds u) i n) := fun _ => e1
  have ci : (nI i).toNatClampNeg = i := nI_clamp (by omega)
  intro d
  induction d with
  | zero =>
    intro j S x' hj hij hS hx m hm
    obtain ⟨m, rfl⟩ : ∃ q, m = q + 1 := ⟨m - 1, by omega⟩
    rw [ux_reachSections_4, ci, e1']
    refine ⟨vp_in_nI (by omega) (by decide), br_t (nI_le (by omega) (by omega)) (h _ x' hS (fun t ht b => ?_))⟩
    rw [hx t ht b]
    constructor
    · rintro (a | ⟨_, a⟩)
      · exact Or.inl a
      · exact Or.inr a
    · rintro (a | a)
      · exact Or.inl a
      · refine Or.inr ⟨?_, a⟩
        obtain ⟨r, er, _, _, _⟩ := un_hdo a.1.1
        have := (st_e_of W.2.2.1 W.2.1 (l := []) (Nat.le_of_lt ht) er).1
        by_cases z : t = j
        · have k1 := (un_opn W hi (Or.inr (Or.inr (Or.inr k6)))).2.2.1
          have s := a.1.2
          rw [z, show j = st_e (xa_kinds u) i n by omega, k1] at s
          exact absurd s (by decide)
        · omega
  | succ d ih =>
    intro j S x' hj hij hS hx m hm
    obtain ⟨m, rfl⟩ : ∃ q, m = q + 1 := ⟨m - 1, by omega⟩
    have cj : (nI j).toNatClampNeg = j := nI_clamp (by omega)
    have vj : vp_in (nI j) 60 := vp_in_nI (by omega) (by decide)
    have hd : st_h (st_s (xa_kinds u) j) = nI i ↔ (st_s (xa_kinds u) j).head? = some i := st_hd_iff (fun b m => by have := (st_lt m).1; omega) (by omega)
    have eb : ∀ S, xa_blockOf (xs_surelySet u S) j = st_h (st_s (xa_kinds u) j) := fun _ => T.2.2.2.2.1.1 j (by omega)
    have skip : ¬ un_pt (xa_kinds u) i j → cx_reachSections_4 post (nI i) (nI (127 - o)) m (nI (j + 1)) (xs_surelySet u S) := by
      intro np
      refine ih (j + 1) S x' (by omega) (by omega) hS (fun t ht b => ?_) m (by omega)
      rw [hx t ht b]
      constructor
      · rintro (a | ⟨a, c⟩)
        · exact Or.inl a
        · exact Or.inr ⟨by omega, c⟩
      · rintro (a | ⟨a, c⟩)
        · exact Or.inl a
        · by_cases z : t = j
          · subst z; exact absurd c.1 np
          · exact Or.inr ⟨by omega, c⟩
    rw [ux_reachSections_4, ci, e1', cj, eb, hd]
    refine ⟨vp_in_nI (by omega) (by decide), br_f (nI_ge (by omega) (by omega)) ⟨vj, br_c (fun z => ⟨vj, xk_sec (fun s => br_f (by decide) ⟨vj, vj, nm_e (nm_r (nI_1 _) ?_)⟩) (fun s => br_t rfl (nm_r (nI_1 _) (skip (fun w => s w.2))))⟩) (fun z => nm_r (nI_1 _) (skip (fun w => z w.1)))⟩⟩
    rw [ss_ss]
    refine ih (j + 1) _ (un_up x' j o) (by omega) (by omega) (un_SX_up hS (by omega) ho) (fun t ht b => ?_) m (by omega)
    rw [un_up_t, hx t ht b]
    constructor
    · rintro ((a | ⟨a, c⟩) | ⟨a, c⟩)
      · exact Or.inl a
      · exact Or.inr ⟨by omega, c⟩
      · subst a; exact Or.inr ⟨by omega, ⟨z, s⟩, c⟩
    · rintro (a | ⟨a, c⟩)
      · exact Or.inl (Or.inl a)
      · by_cases w : t = j
        · exact Or.inr ⟨w, c.2⟩
        · exact Or.inl (Or.inr ⟨by omega, c⟩)
theorem xr_pass {post : SX → Prop} {u : SX} {S : Nat → Int32} {x : Nat → Nat} {n i w : Nat} (T : sx_st u n) (hS : un_SX S x n) (hi : i < n)
    (h : ∀ S' x', un_SX S' x' n → un_XS (xa_kinds u) (xa_argA u) (xa_argC u) n i w x x' → post (xs_surelySet u S')) : wpX_passOn post (xs_surelySet u S) (nI i) (nI (127 - un_o (xa_kinds u) (xa_argA u) (xa_argC u) i w)) := by
  have n60 := T.2.1.1
  have W := T.2.1
  have F := W.2.2.1
  have ho : un_o (xa_kinds u) (xa_argA u) (xa_argC u) i w < 128 := un_o_lt
  have ci : (nI i).toNatClampNeg = i := nI_clamp (by omega)
  have vi : vp_in (nI i) 60 := vp_in_nI (by omega) (by decide)
  have eK : ∀ S, xa_kinds (xs_surelySet u S) = xa_kinds u := fun _ => rfl
  have one : ∀ m, (∀ t o, un_X (xa_kinds u) (xa_argA u) (xa_argC u) n i w t o ↔ t = m ∧ o = un_o (xa_kinds u) (xa_argA u) (xa_argC u) i w) → ∀ S', un_SX S' (un_up x m (un_o (xa_kinds u) (xa_argA u) (xa_argC u) i w)) n → post (xs_surelySet u S') := by
    intro m hm S' hS'
    refine h S' _ hS' (fun t ht b => ?_)
    rw [un_up_t]
    constructor
    · rintro (a | ⟨a, c⟩)
      · exact Or.inl a
      · exact Or.inr ⟨_, (hm t _).mpr ⟨a, rfl⟩, c⟩
    · rintro (a | ⟨o, a, c⟩)
      · exact Or.inl a
      · obtain ⟨a1, a2⟩ := (hm t o).mp a
        rw [a2] at c; exact Or.inr ⟨a1, c⟩
  have two : ∀ m m', (∀ t o, un_X (xa_kinds u) (xa_argA u) (xa_argC u) n i w t o ↔ (t = m ∨ t = m') ∧ o = un_o (xa_kinds u) (xa_argA u) (xa_argC u) i w) → ∀ S', un_SX S' (un_up (un_up x m (un_o (xa_kinds u) (xa_argA u) (xa_argC u) i w)) m' (un_o (xa_kinds u) (xa_argA u) (xa_argC u) i w)) n → post (xs_surelySet u S') := by
    intro m m' hm S' hS'
    refine h S' _ hS' (fun t ht b => ?_)
    rw [un_up_t, un_up_t]
    constructor
    · rintro ((a | ⟨a, c⟩) | ⟨a, c⟩)
      · exact Or.inl a
      · exact Or.inr ⟨_, (hm t _).mpr ⟨Or.inl a, rfl⟩, c⟩
      · exact Or.inr ⟨_, (hm t _).mpr ⟨Or.inr a, rfl⟩, c⟩
    · rintro (a | ⟨o, a, c⟩)
      · exact Or.inl (Or.inl a)
      · obtain ⟨a1, a2⟩ := (hm t o).mp a
        rw [a2] at c
        exact a1.elim (fun z => Or.inl (Or.inr ⟨z, c⟩)) (fun z => Or.inr ⟨z, c⟩)
  have none : (∀ t o, ¬ un_X (xa_kinds u) (xa_argA u) (xa_argC u) n i w t o) → post (xs_surelySet u S) := by
    intro hn
    refine h S x hS (fun t ht b => ⟨Or.inl, ?_⟩)
    rintro (a | ⟨o, a, _⟩)
    · exact a
    · exact absurd a (hn t o)
  have dflt : ¬ xa_kinds u i = 1 → ¬ xa_kinds u i = 2 → ¬ xa_kinds u i = 4 → ¬ xa_kinds u i = 5 → ¬ xa_kinds u i = 6 → ¬ xa_kinds u i = 17 → ¬ xa_kinds u i = 18 → cx_passOn_246 post (nI i) (nI (127 - un_o (xa_kinds u) (xa_argA u) (xa_argC u) i w)) (xs_surelySet u S) := by
    intro k1 k2 k4 k5 k6 k17 k18
    rw [ux_passOn_246, nI_1]
    refine xr_reach T hS (un_nx W hi (fun z => k1 z.1)) ho (one _ (fun t o => ?_))
    constructor
    · rintro (⟨k, _⟩ | ⟨k, _⟩ | ⟨k, _⟩ | ⟨_, _, _, _, _, a | ⟨k, _⟩ | ⟨k, _⟩, b⟩)
      · exact absurd k k5
      · exact absurd k k6
      · exact absurd k k1
      · exact ⟨a, b⟩
      · exact absurd k k2
      · exact absurd k k4
    · rintro ⟨a, b⟩
      exact Or.inr (Or.inr (Or.inr ⟨k1, k5, k6, k17, k18, Or.inl a, b⟩))
  have dk : ∀ k : Int32, xa_kinds u i = k → ¬ k = 1 → ¬ k = 2 → ¬ k = 4 → ¬ k = 5 → ¬ k = 6 → ¬ k = 17 → ¬ k = 18 → cx_passOn_246 post (nI i) (nI (127 - un_o (xa_kinds u) (xa_argA u) (xa_argC u) i w)) (xs_surelySet u S) := by
    intro k e; subst e; exact dflt
  obtain ⟨q, hq, eq⟩ := (T.2.2.2.2.2.1 i hi).1
  have lo : xa_kinds u i < 1 → cx_passOn_246 post (nI i) (nI (127 - un_o (xa_kinds u) (xa_argA u) (xa_argC u) i w)) (xs_surelySet u S) := by
    intro a
    rw [eq] at a
    have : q = 0 := by have := (nI_ltI (b := 1) (by omega) (by decide)).mp a; omega
    subst this
    exact dk 0 eq (by decide) (by decide) (by decide) (by decide) (by decide) (by decide) (by decide)
  have hiq : 18 < xa_kinds u i → cx_passOn_246 post (nI i) (nI (127 - un_o (xa_kinds u) (xa_argA u) (xa_argC u) i w)) (xs_surelySet u S) := by
    intro a
    have a' := a
    rw [eq] at a'
    have : 18 < q := (nI_ltI (a := 18) (by decide) (by omega)).mp a'
    have ne : ∀ c : Nat, c ≤ 18 → ¬ xa_kinds u i = nI c := by
      intro c hc z
      rw [eq, nI_eq (by omega) (by omega)] at z
      omega
    exact dflt (ne 1 (by omega)) (ne 2 (by omega)) (ne 4 (by omega)) (ne 5 (by omega)) (ne 6 (by omega)) (ne 17 (by omega)) (ne 18 (by omega))
  rw [ux_passOn, ci, eK]
  refine ⟨vi, nm_e (br_c lo (fun _ => br_c hiq (fun _ => br_c (fun k1 => ?_) (fun n1 => br_c (fun k2 => ?_) (fun n2 => br_c (fun a => dk 3 a (by decide) (by decide) (by decide) (by decide) (by decide) (by decide) (by decide)) (fun _ => br_c (fun k4 => ?_) (fun n4 => br_c (fun k5 => ?_) (fun n5 => br_c (fun k6 => ?_) (fun n6 =>
    br_c (fun a => dk 7 a (by decide) (by decide) (by decide) (by decide) (by decide) (by decide) (by decide)) (fun _ => br_c (fun a => dk 8 a (by decide) (by decide) (by decide) (by decide) (by decide) (by decide) (by decide)) (fun _ => br_c (fun a => dk 9 a (by decide) (by decide) (by decide) (by decide) (by decide) (by decide) (by decide)) (fun _ => br_c (fun a => dk 10 a (by decide) (by decide) (by decide) (by decide) (by decide) (by decide) (by decide)) (fun _ =>
    br_c (fun a => dk 11 a (by decide) (by decide) (by decide) (by decide) (by decide) (by decide) (by decide)) (fun _ => br_c (fun a => dk 12 a (by decide) (by decide) (by decide) (by decide) (by decide) (by decide) (by decide)) (fun _ => br_c (fun a => dk 13 a (by decide) (by decide) (by decide) (by decide) (by decide) (by decide) (by decide)) (fun _ => br_c (fun a => dk 14 a (by decide) (by decide) (by decide) (by decide) (by decide) (by decide) (by decide)) (fun _ =>
    br_c (fun a => dk 15 a (by decide) (by decide) (by decide) (by decide) (by decide) (by decide) (by decide)) (fun _ => br_c (fun a => dk 16 a (by decide) (by decide) (by decide) (by decide) (by decide) (by decide) (by decide)) (fun _ => br_c (fun k17 => ?_) (fun n17 => br_c (fun k18 => ?_) (fun n18 => True.intro)))))))))))))))))))))⟩
  · -- END
    obtain ⟨p, r, e, hp, hop, hr⟩ := st_mkhd F hi (Or.inl k1)
    have eb : xa_blockOf (xs_surelySet u S) i = nI p := by
      have := T.2.2.2.2.1.1 i hi
      rw [e] at this
      exact this
    have yes : xa_kinds u p = 2 ∨ xa_kinds u p = 6 → cx_passOn_126 post (nI i) (nI (127 - un_o (xa_kinds u) (xa_argA u) (xa_argC u) i w)) (xs_surelySet u S) := by
      intro c
      have k0 : ¬ xa_kinds u p = 0 := by rcases c with k | k <;> (rw [k]; decide)
      rw [ux_passOn_126, nI_1]
      refine xr_reach T hS (un_nx W hi (fun z => by obtain ⟨_, o', r', e', k'⟩ := z; rw [e] at e'; injection e' with a b; rw [a] at k0; exact k0 k')) ho (one _ (fun t o => ?_))
      constructor
      · rintro (⟨k, _⟩ | ⟨k, _⟩ | ⟨_, _, a, b⟩ | ⟨a1, _⟩)
        · rw [k1] at k; exact absurd k (by decide)
        · rw [k1] at k; exact absurd k (by decide)
        · exact ⟨a, b⟩
        · exact absurd k1 a1
      · rintro ⟨a, b⟩
        exact Or.inr (Or.inr (Or.inl ⟨k1, ⟨p, r, e, c⟩, a, b⟩))
    rw [eb]
    refine ⟨vi, vp_in_nI (by omega) (by decide), ?_⟩
    rw [nI_clamp (by omega)]
    refine br_c (fun a => yes (Or.inl a)) (fun a => ⟨vi, vp_in_nI (by omega) (by decide), br_c (fun b => yes (Or.inr b)) (fun b => none (fun t o hX => ?_))⟩)
    rcases hX with ⟨k, _⟩ | ⟨k, _⟩ | ⟨_, ⟨q', r', e', c'⟩, _⟩ | ⟨a1, _⟩
    · rw [k1] at k; exact absurd k (by decide)
    · rw [k1] at k; exact absurd k (by decide)
    · rw [e] at e'; injection e' with x1 x2; rw [← x1] at c'; exact c'.elim a b
    · exact a1 k1
  · -- IF
    obtain ⟨e1, e2, e3⟩ := sx_end T hi (Or.inr (Or.inl k2))
    have n1 : ¬ xa_kinds u i = 1 := by rw [k2]; decide
    have nn : ¬ xa_kinds u i = 5 ∧ ¬ xa_kinds u i = 6 ∧ ¬ xa_kinds u i = 17 ∧ ¬ xa_kinds u i = 18 ∧ ¬ xa_kinds u i = 4 := by rw [k2]; decide
    rw [nI_1]
    have fin : ∀ m', (∀ t, un_oe (xa_kinds u) n i t ↔ t = m') → ∀ t o, un_X (xa_kinds u) (xa_argA u) (xa_argC u) n i w t o ↔ (t = un_xn (xa_kinds u) n (i + 1) ∨ t = m') ∧ o = un_o (xa_kinds u) (xa_argA u) (xa_argC u) i w := by
      intro m' hm t o
      constructor
      · rintro (⟨k, _⟩ | ⟨k, _⟩ | ⟨k, _⟩ | ⟨_, _, _, _, _, a | ⟨_, a⟩ | ⟨k, _⟩, b⟩)
        · exact absurd k nn.1
        · exact absurd k nn.2.1
        · exact absurd k n1
        · exact ⟨Or.inl a, b⟩
        · exact ⟨Or.inr ((hm t).mp a), b⟩
        · exact absurd k nn.2.2.2.2
      · rintro ⟨a | a, b⟩
        · exact Or.inr (Or.inr (Or.inr ⟨n1, nn.1, nn.2.1, nn.2.2.1, nn.2.2.2.1, Or.inl a, b⟩))
        · exact Or.inr (Or.inr (Or.inr ⟨n1, nn.1, nn.2.1, nn.2.2.1, nn.2.2.2.1, Or.inr (Or.inl ⟨k2, (hm t).mpr a⟩), b⟩))
    refine xr_reach T hS (un_nx W hi (fun z => n1 z.1)) ho (fun S' hS' => ⟨vi, ?_⟩)
    have ee : xa_elseOf (xs_surelySet u S') i = xa_elseOf u i := rfl
    have en : xa_endOf (xs_surelySet u S') i = nI (st_e (xa_kinds u) i n) := e1
    rw [ee, en]
    rcases T.2.2.2.2.1.2.2.1 i hi with ⟨a, b⟩ | ⟨j, a, b, c, d⟩
    · refine br_t a ⟨vi, xr_170 n60 hS' e3 ho (two _ _ (fin _ (fun t => ?_)))⟩
      constructor
      · rintro (⟨z1, z2, z3⟩ | ⟨_, z⟩)
        · exact absurd ⟨t, z1, z2, z3⟩ b
        · exact z
      · intro z; exact Or.inr ⟨b, z⟩
    · refine br_f (by rw [d]; exact ne_m1 (by omega)) ⟨vi, ?_⟩
      rw [d]
      refine xr_170 n60 hS' a ho (two _ _ (fin _ (fun t => ?_)))
      constructor
      · rintro (⟨z1, z2, z3⟩ | ⟨z, _⟩)
        · -- one ELSE alone
          exact un_else1 T.2.2.2.1 z1 z2 z3 a b c
        · exact absurd ⟨j, a, b, c⟩ z
      · intro z; subst z; exact Or.inl ⟨a, b, c⟩
  · -- LOOP
    obtain ⟨e1, e2, e3⟩ := sx_end T hi (Or.inr (Or.inr (Or.inl k4)))
    obtain ⟨p1, p2, p3, p4, p5⟩ := un_opn W hi (Or.inr (Or.inr (Or.inl k4)))
    have n1 : ¬ xa_kinds u i = 1 := by rw [k4]; decide
    have nn : ¬ xa_kinds u i = 5 ∧ ¬ xa_kinds u i = 6 ∧ ¬ xa_kinds u i = 17 ∧ ¬ xa_kinds u i = 18 ∧ ¬ xa_kinds u i = 2 := by rw [k4]; decide
    rw [nI_1]
    refine xr_reach T hS (un_nx W hi (fun z => n1 z.1)) ho (fun S' hS' => ⟨vi, ?_⟩)
    have en : xa_endOf (xs_surelySet u S') i = nI (st_e (xa_kinds u) i n) := e1
    rw [en, nI_1]
    refine xr_reach T hS' (p5 (by rw [k4]; decide)).1 ho (two _ _ (fun t o => ?_))
    constructor
    · rintro (⟨k, _⟩ | ⟨k, _⟩ | ⟨k, _⟩ | ⟨_, _, _, _, _, a | ⟨k, _⟩ | ⟨_, a⟩, b⟩)
      · exact absurd k nn.1
      · exact absurd k nn.2.1
      · exact absurd k n1
      · exact ⟨Or.inl a, b⟩
      · exact absurd k nn.2.2.2.2
      · exact ⟨Or.inr a, b⟩
    · rintro ⟨a | a, b⟩
      · exact Or.inr (Or.inr (Or.inr ⟨n1, nn.1, nn.2.1, nn.2.2.1, nn.2.2.2.1, Or.inl a, b⟩))
      · exact Or.inr (Or.inr (Or.inr ⟨n1, nn.1, nn.2.1, nn.2.2.1, nn.2.2.2.1, Or.inr (Or.inr ⟨k4, a⟩), b⟩))
  · -- BREAK
    have nn : ¬ xa_kinds u i = 6 ∧ ¬ xa_kinds u i = 1 := by rw [k5]; decide
    have eb : xa_blockOf (xs_surelySet u S) i = st_h (st_s (xa_kinds u) i) := T.2.2.2.2.1.1 i hi
    rw [eb]
    refine ⟨vi, xl_loopAround (u := xs_surelySet u S) n60 T.2.2.2.2.1.1 (Nat.le_of_lt hi) (fun l hl => ?_) (fun hN => ?_)⟩
    · have lm := List.mem_of_find?_eq_some hl
      have lk0 : xa_kinds (xs_surelySet u S) l = 4 := by have := List.find?_some hl; simpa using this
      have lk : xa_kinds u l = 4 := lk0
      have ln := (st_lt lm).1
      obtain ⟨e1, e2, e3⟩ := sx_end T (by omega : l < n) (Or.inr (Or.inr (Or.inl lk)))
      obtain ⟨p1, p2, p3, p4⟩ := un_out W hi lm (by rw [lk]; decide)
      have en : xa_endOf (xs_surelySet u S) l = nI (st_e (xa_kinds u) l n) := e1
      refine ⟨vp_in_nI (by omega) (by decide), ?_⟩
      rw [nI_clamp (by omega), en, nI_1]
      refine xr_reach T hS p2 ho (one _ (fun t o => ?_))
      constructor
      · rintro (⟨_, ⟨l', hl', a⟩, b⟩ | ⟨k, _⟩ | ⟨k, _⟩ | ⟨_, a2, _⟩)
        · have hl2 : (st_s (xa_kinds u) i).find? (fun b => xa_kinds u b == 4) = some l := hl
          rw [hl2] at hl'
          injection hl' with z
          rw [← z] at a
          exact ⟨a, b⟩
        · exact absurd k nn.1
        · exact absurd k nn.2
        · exact absurd k5 a2
      · rintro ⟨a, b⟩
        exact Or.inl ⟨k5, ⟨l, hl, a⟩, b⟩
    · obtain ⟨b, hb, k4⟩ := W.2.2.2.2.2 i hi k5
      have := List.find?_eq_none.mp hN b hb
      have k4' : xa_kinds (xs_surelySet u S) b = 4 := k4
      simp [k4'] at this
  · -- SELECT
    have n1 : ¬ xa_kinds u i = 1 := by rw [k6]; decide
    have n5 : ¬ xa_kinds u i = 5 := by rw [k6]; decide
    obtain ⟨e1, e2, e3⟩ := sx_end T hi (Or.inr (Or.inr (Or.inr k6)))
    rw [ux_reachSections]
    refine nm_r (nI_1 _) ⟨_, xr_secs T hi k6 ho (x := x) (fun S' x' hS' hx' => h S' x' hS' (fun t ht b => ?_)) (st_e (xa_kinds u) i n - (i + 1)) (i + 1) S x (by omega) (by omega) hS (fun t ht b => ?_) _ (Nat.lt_succ_self _)⟩
    · rw [hx' t ht b]
      constructor
      · rintro (a | ⟨a, c⟩)
        · exact Or.inl a
        · exact Or.inr ⟨_, Or.inr (Or.inl ⟨k6, ht, a, rfl⟩), c⟩
      · rintro (a | ⟨o, a, c⟩)
        · exact Or.inl a
        · rcases a with ⟨k, _⟩ | ⟨_, _, a, b⟩ | ⟨k, _⟩ | ⟨_, _, a3, _⟩
          · exact absurd k n5
          · rw [b] at c; exact Or.inr ⟨a, c⟩
          · exact absurd k n1
          · exact absurd k6 a3
    · constructor
      · exact Or.inl
      · rintro (a | ⟨a, c, _⟩)
        · exact a
        · obtain ⟨r, _, z, _⟩ := un_hdo c.1
          omega
  · refine none (fun t o hX => ?_)
    rcases hX with ⟨k, _⟩ | ⟨k, _⟩ | ⟨k, _⟩ | ⟨_, _, _, a, _⟩
    · rw [k17] at k; exact absurd k (by decide)
    · rw [k17] at k; exact absurd k (by decide)
    · rw [k17] at k; exact absurd k (by decide)
    · exact a k17
  · refine none (fun t o hX => ?_)
    rcases hX with ⟨k, _⟩ | ⟨k, _⟩ | ⟨k, _⟩ | ⟨_, _, _, _, a, _⟩
    · rw [k18] at k; exact absurd k (by decide)
    · rw [k18] at k; exact absurd k (by decide)
    · rw [k18] at k; exact absurd k (by decide)
    · exact a k18
