/-! UNSET: X's answer -/
theorem un_127 : ∀ w, w < 128 → (nI (127 - w) = 127 ↔ w = 0) := by decide +kernel
theorem un_rdm : ∀ r, r < 64 → ∀ m, m < 64 → ((nI r &&& (nI (63 - m) ^^^ (-1))) = 0 ↔ r &&& (64 + m) = 0) := by decide +kernel
theorem un_stm : ∀ w, w < 128 → ∀ s, s < 64 → (127 - w) ||| s = 127 - (w &&& (127 - s)) := by decide +kernel
theorem un_64 {w : Nat} (hw : w < 128) (h : w.testBit 6 = true) : 64 ≤ w := by
  have : ∀ w, w < 128 → w.testBit 6 = true → 64 ≤ w := by decide +kernel
  exact this w hw h
theorem un_rd {r w : Nat} (hr : r < 64) (hw : w < 128) (h : w.testBit 6 = true) : (nI r &&& (nI (127 - w) ^^^ (-1))) = 0 ↔ r &&& w = 0 := by
  have := un_64 hw h
  obtain ⟨m, rfl⟩ : ∃ m, w = 64 + m := ⟨w - 64, by omega⟩
  rw [show 127 - (64 + m) = 63 - m by omega]
  exact un_rdm r hr m (by omega)
theorem un_r_mk {K A B C : Nat → Int32} {n i : Nat} (h : st_mk (K i)) : un_r K A B C n i = 0 := by
  have a1 : ¬ (K i = 2 ∨ K i = 4 ∨ K i = 12 ∨ K i = 18 ∨ K i = 20 ∨ K i = 28) ∧ ¬ K i = 10 ∧ ¬ (K i = 11 ∨ K i = 21) ∧ ¬ ln_go (K i) ∧ ¬ K i = 6 ∧ ¬ (K i = 22 ∨ K i = 23 ∨ K i = 24 ∨ K i = 25 ∨ K i = 26 ∨ K i = 27) := by
    rcases h with k | k | k | k | k | k <;> (rw [k]; decide)
  unfold un_r
  rw [if_neg a1.1, if_neg a1.2.1, if_neg a1.2.2.1, if_neg a1.2.2.2.1, if_neg a1.2.2.2.2.1, if_neg a1.2.2.2.2.2]
def un_good (K A B C : Nat → Int32) (n i : Nat) : Prop := un_r K A B C n i &&& un_ty K A C n n i = 0
def un_res (K A B C : Nat → Int32) (n : Nat) (r : Int32) : Prop :=
  (∃ i, i < n ∧ (∀ j, j < i → un_good K A B C n j) ∧ ¬ un_good K A B C n i ∧ r = nI i) ∨ ((∀ j, j < n → un_good K A B C n j) ∧ r = -1)
theorem un_uniq {K A B C : Nat → Int32} {n : Nat} {r r' : Int32} (h : un_res K A B C n r) (h' : un_res K A B C n r') : r' = r := by
  rcases h with ⟨i, a, b, c, d⟩ | ⟨b, c⟩
  · rcases h' with ⟨i', a', b', c', d'⟩ | ⟨b', c'⟩
    · rcases Nat.lt_trichotomy i i' with z | z | z
      · exact absurd (b' i z) c
      · subst z; rw [d, d']
      · exact absurd (b i' z) c'
    · exact absurd (b' i a) c
  · rcases h' with ⟨i', a', b', c', d'⟩ | ⟨b', c'⟩
    · exact absurd (b i' a') c'
    · rw [c, c']
theorem sx_Pm {u : SX} {n : Nat} (T : sx_st u n) : un_Pm (xa_kinds u) (xa_argA u) n := fun i hi k0 => (T.2.2.2.2.2.1 i hi).2.1 k0
theorem un_X0 {K A C : Nat → Int32} {n i w m o b : Nat} (W : st_wf K n) (hi : i < n) (hw : w = 0) (h : un_X K A C n i w m o) (hb : o.testBit b = true) : False := un_0f hw ((un_X_rng W hi h).2.2.2.2.1 b hb)
theorem xu_59 {post : Int32 → SX → Prop} {J : Int32 → SX → Prop} {u : SX} {S : Nat → Int32} {n i : Nat} (T : sx_st u n) (hi : i < n)
    (hS : un_SX S (fun t => if t = i then un_cur (xa_kinds u) (xa_argA u) i (un_tx (xa_kinds u) (xa_argA u) (xa_argC u) n i i) else un_tx (xa_kinds u) (xa_argA u) (xa_argC u) n i t) n)
    (hJ : un_good (xa_kinds u) (xa_argA u) (xa_argB u) (xa_argC u) n i → ∀ S', un_SX S' (un_tx (xa_kinds u) (xa_argA u) (xa_argC u) n (i + 1)) n → J (nI (i + 1)) (xs_surelySet u S'))
    (hp : ¬ un_good (xa_kinds u) (xa_argA u) (xa_argB u) (xa_argC u) n i → ∀ S', post (nI i) (xs_surelySet u S')) : cx_unsetFault_59 post J (nI i) (xs_surelySet u S) := by
  have n60 := T.2.1.1
  have W := T.2.1
  have P := sx_Pm T
  have I := un_Iall (C := xa_argC u) W P i (by omega)
  have ci : (nI i).toNatClampNeg = i := nI_clamp (by omega)
  have vi : vp_in (nI i) 60 := vp_in_nI (by omega) (by decide)
  have hSi := hS i hi
  dsimp only at hSi
  rw [if_pos rfl] at hSi
  obtain ⟨es, wl⟩ := hSi
  have c6 : un_cur (xa_kinds u) (xa_argA u) i (un_tx (xa_kinds u) (xa_argA u) (xa_argC u) n i i) = 0 ∨ (un_cur (xa_kinds u) (xa_argA u) i (un_tx (xa_kinds u) (xa_argA u) (xa_argC u) n i i)).testBit 6 = true := by
    unfold un_cur
    split
    · exact (un_w0_ok P hi).2
    · exact (I.1 i hi).2.2.1
  have nm : ¬ st_mk (xa_kinds u i) → un_cur (xa_kinds u) (xa_argA u) i (un_tx (xa_kinds u) (xa_argA u) (xa_argC u) n i i) = un_ty (xa_kinds u) (xa_argA u) (xa_argC u) n n i := fun hm => (un_same W I hi hm).trans (un_fin W P n (by omega) (Nat.le_refl _)).symm
  have gd : un_r (xa_kinds u) (xa_argA u) (xa_argB u) (xa_argC u) n i &&& un_cur (xa_kinds u) (xa_argA u) i (un_tx (xa_kinds u) (xa_argA u) (xa_argC u) n i i) = 0 ↔ un_good (xa_kinds u) (xa_argA u) (xa_argB u) (xa_argC u) n i := by
    unfold un_good
    by_cases hm : st_mk (xa_kinds u i)
    · rw [un_r_mk hm, Nat.zero_and, Nat.zero_and]
    · rw [nm hm]
  have es' : xa_surelySet (xs_surelySet u S) i = nI (127 - un_cur (xa_kinds u) (xa_argA u) i (un_tx (xa_kinds u) (xa_argA u) (xa_argC u) n i i)) := es
  rw [ux_unsetFault_59, ci, es', un_127 _ wl]
  refine ⟨vi, br_c (fun z => nm_r (nI_1 _) (hJ (gd.mp (by rw [z, Nat.and_zero])) S ?_)) (fun z => ?_)⟩
  · intro t ht
    have e : un_tx (xa_kinds u) (xa_argA u) (xa_argC u) n (i + 1) t = (if t = i then un_cur (xa_kinds u) (xa_argA u) i (un_tx (xa_kinds u) (xa_argA u) (xa_argC u) n i i) else un_tx (xa_kinds u) (xa_argA u) (xa_argC u) n i t) := by
      apply un_ext
      intro b
      rw [un_tx_s]
      constructor
      · rintro ⟨_, h | ⟨o, hX, hb⟩⟩
        · exact h
        · exact (un_X0 W hi z hX hb).elim
      · intro h
        exact ⟨un_t7 (hS t ht).2 h, Or.inl h⟩
    rw [e]
    exact hS t ht
  · have w6 := c6.resolve_left z
    refine xr_reads (u := xs_surelySet u S) T hi ⟨vi, ?_⟩
    show ((nI (un_r (xa_kinds u) (xa_argA u) (xa_argB u) (xa_argC u) n i) &&& _) = 0 → _) ∧ (¬ (nI (un_r (xa_kinds u) (xa_argA u) (xa_argB u) (xa_argC u) n i) &&& _) = 0 → _)
    rw [un_rd un_r_lt wl w6, gd]
    refine br_c (fun g => ⟨vi, xr_sets (u := xs_surelySet u S) T hi (nm_r (show _ = nI (127 - un_o (xa_kinds u) (xa_argA u) (xa_argC u) i (un_cur (xa_kinds u) (xa_argA u) i (un_tx (xa_kinds u) (xa_argA u) (xa_argC u) n i i))) from ?_) (xr_pass T hS hi (fun S' x' hS' hx' => nm_r (nI_1 _) (hJ g S' (fun t ht => ?_)))))⟩) (fun g => hp g S)
    · rw [nx_or]
      exact congrArg nI (un_stm _ wl _ un_s_lt)
    · have e : un_tx (xa_kinds u) (xa_argA u) (xa_argC u) n (i + 1) t = x' t := by
        apply un_ext
        intro b
        rw [un_tx_s, hx' t ht b]
        constructor
        · rintro ⟨_, h⟩; exact h
        · intro h
          exact ⟨un_t7 (hS' t ht).2 ((hx' t ht b).mpr h), h⟩
      rw [e]
      exact hS' t ht
theorem xu_26 {post : Int32 → SX → Prop} {u : SX} {n : Nat} (T : sx_st u n) (hp : ∀ r S', un_res (xa_kinds u) (xa_argA u) (xa_argB u) (xa_argC u) n r → post r (xs_surelySet u S')) :
    ∀ d i S, i + d = n → un_SX S (un_tx (xa_kinds u) (xa_argA u) (xa_argC u) n i) n → (∀ j, j < i → un_good (xa_kinds u) (xa_argA u) (xa_argB u) (xa_argC u) n j) → ∀ m, d < m → cx_unsetFault_26 post m (nI i) (xs_surelySet u S) := by
  have n60 := T.2.1.1
  have W := T.2.1
  have P := sx_Pm T
  have hl : ∀ S, xa_lineCount (xs_surelySet u S) = nI n := fun _ => T.1
  have eK : ∀ S, xa_kinds (xs_surelySet u S) = xa_kinds u := fun _ => rfl
  have eA : ∀ S, xa_argA (xs_surelySet u S) = xa_argA u := fun _ => rfl
  intro d
  induction d with
  | zero =>
    intro i S hi hS hg m hm
    obtain ⟨m, rfl⟩ : ∃ q, m = q + 1 := ⟨m - 1, by omega⟩
    rw [ux_unsetFault_26, hl]
    exact br_t (nI_le (by omega) (by omega)) (hp _ S (Or.inr ⟨fun j hj => hg j (by omega), rfl⟩))
  | succ d ih =>
    intro i S hi hS hg m hm
    obtain ⟨m, rfl⟩ : ∃ q, m = q + 1 := ⟨m - 1, by omega⟩
    have ci : (nI i).toNatClampNeg = i := nI_clamp (by omega)
    have vi : vp_in (nI i) 60 := vp_in_nI (by omega) (by decide)
    have I := un_Iall (C := xa_argC u) W P i (by omega)
    have go : ∀ S1, un_SX S1 (fun t => if t = i then un_cur (xa_kinds u) (xa_argA u) i (un_tx (xa_kinds u) (xa_argA u) (xa_argC u) n i i) else un_tx (xa_kinds u) (xa_argA u) (xa_argC u) n i t) n → cx_unsetFault_59 post (cx_unsetFault_26 post m) (nI i) (xs_surelySet u S1) := by
      intro S1 hS1
      refine xu_59 T (by omega) hS1 (fun g S' hS' => ih (i + 1) S' (by omega) hS' (fun j hj => ?_) m (by omega)) (fun g S' => hp _ S' (Or.inl ⟨i, by omega, hg, g, rfl⟩))
      by_cases z : j = i
      · subst z; exact g
      · exact hg j (by omega)
    rw [ux_unsetFault_26, hl, ci, eK, eA]
    refine br_f (nI_ge (by omega) (by omega)) ⟨vi, br_c (fun k0 => ⟨vi, vi, nm_e ?_⟩) (fun k0 => go S (fun t ht => ?_))⟩
    · rw [ss_ss]
      refine go _ (fun t ht => ?_)
      by_cases e : t = i
      · subst e
        obtain ⟨p, hp3, ep⟩ := P t ht k0
        dsimp only
        rw [if_pos rfl]
        unfold un_cur un_w0
        rw [if_pos k0, if_pos k0, ep, nI_clamp (by omega), pk_us]
        have : p = 0 ∨ p = 1 ∨ p = 2 := by omega
        rcases this with z | z | z <;> (subst z; decide)
      · dsimp only
        rw [if_neg e, pk_un e]
        exact hS t ht
    · by_cases e : t = i
      · subst e
        dsimp only
        rw [if_pos rfl]
        unfold un_cur
        rw [if_neg k0]
        exact hS t ht
      · dsimp only
        rw [if_neg e]; exact hS t ht
theorem xu_2 {post : Int32 → SX → Prop} {u : SX} {n : Nat} (T : sx_st u n) (hp : ∀ r S', un_res (xa_kinds u) (xa_argA u) (xa_argB u) (xa_argC u) n r → post r (xs_surelySet u S')) :
    ∀ d i S, i + d = n → (∀ t, t < i → S t = 127) → ∀ m, d < m → cx_unsetFault_2 post m (nI i) (xs_surelySet u S) := by
  have n60 := T.2.1.1
  have hl : ∀ S, xa_lineCount (xs_surelySet u S) = nI n := fun _ => T.1
  intro d
  induction d with
  | zero =>
    intro i S hi hS m hm
    obtain ⟨m, rfl⟩ : ∃ q, m = q + 1 := ⟨m - 1, by omega⟩
    rw [ux_unsetFault_2, hl]
    refine br_t (nI_le (by omega) (by omega)) ⟨n + 1, xu_26 T hp n 0 S (by omega) (fun t ht => ⟨?_, ?_⟩) (fun j hj => by omega) _ (Nat.lt_succ_self _)⟩
    · rw [hS t (by omega)]; rfl
    · show 0 < 128; decide
  | succ d ih =>
    intro i S hi hS m hm
    obtain ⟨m, rfl⟩ : ∃ q, m = q + 1 := ⟨m - 1, by omega⟩
    rw [ux_unsetFault_2, hl, nI_clamp (by omega)]
    refine br_f (nI_ge (by omega) (by omega)) ⟨vp_in_nI (by omega) (by decide), nm_e (nm_r (nI_1 _) ?_)⟩
    rw [ss_ss]
    refine ih (i + 1) _ (by omega) (fun t ht => ?_) m (by omega)
    by_cases e : t = i
    · subst e; exact pk_us
    · rw [pk_un e]; exact hS t (by omega)
theorem xu_unset {post : Int32 → SX → Prop} {u : SX} {n : Nat} (T : sx_st u n) (hp : ∀ r S', un_res (xa_kinds u) (xa_argA u) (xa_argB u) (xa_argC u) n r → post r (xs_surelySet u S')) : wpX_unsetFault post u := by
  rw [ux_unsetFault]
  exact ⟨n + 1, xu_2 T hp n 0 (xa_surelySet u) (by omega) (fun t ht => by omega) _ (Nat.lt_succ_self _)⟩
