/-- X: the functions' lines and parameters -/
theorem sx_fun {u : SX} {n f : Nat} (S : sx_st u n) (hf : nI f < xa_functionCount u) (f30 : f < 30) : ∃ j, j < n ∧ xa_kinds u j = 0 ∧ st_f (xa_kinds u) j = f ∧ xa_functionLine u f = nI j ∧ st_fl (xa_kinds u) f n = j ∧ ∃ p, p < 3 ∧ xa_argA u j = nI p ∧ un_pf (xa_kinds u) (xa_argA u) n f = p := by
  obtain ⟨h1, W, n0, ok, ⟨A1, A2, A3, A4, A5, A6⟩, L, C⟩ := S
  have n60 := W.1
  have fb : st_f (xa_kinds u) n ≤ 60 := by split at A6 <;> omega
  rw [A5, nI_ltI (by omega) (by omega)] at hf
  obtain ⟨j, a, b, c⟩ := st_fl_ex n hf
  have e := st_fl_eq b c n a
  obtain ⟨p, hp, ep⟩ := (L j a).2.1 b
  refine ⟨j, a, b, c, by rw [← c]; exact A4 j a b, e, p, hp, ep, ?_⟩
  unfold un_pf
  rw [e, ep, nI_clamp (by omega)]
theorem xr_reads {post : Int32 → Prop} {u : SX} {n i : Nat} (S : sx_st u n) (hi : i < n) (h : post (nI (un_r (xa_kinds u) (xa_argA u) (xa_argB u) (xa_argC u) n i))) : wpX_variablesRead post u (nI i) := by
  have n60 := S.2.1.1
  have ci : (nI i).toNatClampNeg = i := nI_clamp (by omega)
  have vi : vp_in (nI i) 60 := vp_in_nI (by omega) (by decide)
  rw [ux_variablesRead, ci]
  refine ⟨vi, xb_bit ⟨vi, xb_bit ⟨vi, xb_bit ⟨vi, nm_e ?_⟩⟩⟩⟩
  unfold un_r at h
  have d220 : ¬ (xa_kinds u i = 2 ∨ xa_kinds u i = 4 ∨ xa_kinds u i = 12 ∨ xa_kinds u i = 18 ∨ xa_kinds u i = 20 ∨ xa_kinds u i = 28) → ¬ xa_kinds u i = 10 → ¬ (xa_kinds u i = 11 ∨ xa_kinds u i = 21) → ¬ ln_go (xa_kinds u i) → ¬ xa_kinds u i = 6 → cx_variablesRead_220 post (nI i) (nI (un_b (xa_argB u i))) (nI (un_b (xa_argC u i))) u := by
    intro a1 a2 a3 a4 a5
    rw [if_neg a1, if_neg a2, if_neg a3, if_neg a4, if_neg a5] at h
    rw [ux_variablesRead_220, ci]
    refine ⟨vi, xb_comp (fun b1 b2 => br_f (by decide) ?_) (fun b => br_t rfl ?_)⟩
    · have := comp_rng.mpr ⟨b1, b2⟩
      rw [if_pos (this.elim (fun z => absurd (Or.inr z) a3) id)] at h
      rw [nx_or]; exact h
    · rw [if_neg] at h
      · exact h
      · intro z
        have := comp_rng.mp (Or.inr z)
        exact b.elim this.1 this.2
  have d172 : ln_go (xa_kinds u i) → cx_variablesRead_172 post (nI i) (nI (un_b (xa_argB u i))) (nI (un_b (xa_argC u i))) u := by
    intro g
    have a1 : ¬ (xa_kinds u i = 2 ∨ xa_kinds u i = 4 ∨ xa_kinds u i = 12 ∨ xa_kinds u i = 18 ∨ xa_kinds u i = 20 ∨ xa_kinds u i = 28) := by rcases g with k | k | k <;> (rw [k]; decide)
    have a2 : ¬ xa_kinds u i = 10 := by rcases g with k | k | k <;> (rw [k]; decide)
    have a3 : ¬ (xa_kinds u i = 11 ∨ xa_kinds u i = 21) := by rcases g with k | k | k <;> (rw [k]; decide)
    rw [if_neg a1, if_neg a2, if_neg a3, if_pos g] at h
    obtain ⟨f, hf, ef⟩ := (S.2.2.2.2.2.1 i hi).2.2.2.2.2 g
    have lt := S.2.2.2.2.2.2 i hi g
    rw [ef] at lt h
    obtain ⟨j, j1, j2, j3, j4, j5, p, p1, p2, p3⟩ := sx_fun S lt hf
    rw [nI_clamp (show f < 2 ^ 31 by omega), p3] at h
    rw [ux_variablesRead_172, ci, ef]
    refine ⟨vi, vp_in_nI hf (by decide), ?_⟩
    rw [nI_clamp (show f < 2 ^ 31 by omega), j4]
    refine ⟨vp_in_nI (by omega) (by decide), nm_r (show _ = nI p by rw [nI_clamp (by omega)]; exact p2) ?_⟩
    have : p = 0 ∨ p = 1 ∨ p = 2 := by omega
    rcases this with z | z | z
    · subst z
      refine br_t (by decide) ?_
      rw [ux_variablesRead_200]
      rw [if_pos rfl] at h
      rw [show (0 : Int32) ||| 0 = nI 0 by decide]
      exact br_t (by decide) h
    · subst z
      refine br_f (by decide) ?_
      rw [ux_variablesRead_200]
      refine br_t (by decide) ?_
      rw [show (0 : Int32) = nI 0 from rfl, nx_or, Nat.or_zero]
      exact h
    · subst z
      refine br_f (by decide) ?_
      rw [ux_variablesRead_200]
      refine br_f (by decide) ?_
      rw [nx_or]
      exact h
  have dA : (xa_kinds u i = 2 ∨ xa_kinds u i = 4 ∨ xa_kinds u i = 12 ∨ xa_kinds u i = 18 ∨ xa_kinds u i = 20 ∨ xa_kinds u i = 28) → post (nI (un_b (xa_argA u i))) := by
    intro a; rw [if_pos a] at h; exact h
  have dB : xa_kinds u i = 11 ∨ xa_kinds u i = 21 → post (nI (un_b (xa_argB u i))) := by
    intro a
    have a1 : ¬ (xa_kinds u i = 2 ∨ xa_kinds u i = 4 ∨ xa_kinds u i = 12 ∨ xa_kinds u i = 18 ∨ xa_kinds u i = 20 ∨ xa_kinds u i = 28) := by rcases a with k | k <;> (rw [k]; decide)
    have a2 : ¬ xa_kinds u i = 10 := by rcases a with k | k <;> (rw [k]; decide)
    rw [if_neg a1, if_neg a2, if_pos a] at h; exact h
  have dk : ∀ k : Int32, xa_kinds u i = k → (¬ (k = 2 ∨ k = 4 ∨ k = 12 ∨ k = 18 ∨ k = 20 ∨ k = 28)) → ¬ k = 10 → ¬ (k = 11 ∨ k = 21) → ¬ ln_go k → ¬ k = 6 → cx_variablesRead_220 post (nI i) (nI (un_b (xa_argB u i))) (nI (un_b (xa_argC u i))) u := by
    intro k e b1 b2 b3 b4 b5
    subst e
    exact d220 b1 b2 b3 b4 b5
  obtain ⟨q, hq, eq⟩ := (S.2.2.2.2.2.1 i hi).1
  have gr := dk (xa_kinds u i) rfl
  refine br_c (fun a => ?_) (fun _ => br_c (fun a => ?_) (fun _ => br_c (fun a => dA (Or.inl a)) (fun _ => br_c (fun a => dk 3 a (by decide) (by decide) (by decide) (by decide) (by decide)) (fun _ => br_c (fun a => dA (Or.inr (Or.inl a))) (fun _ => br_c (fun a => dk 5 a (by decide) (by decide) (by decide) (by decide) (by decide)) (fun _ => br_c (fun a => ?_) (fun _ =>
    br_c (fun a => dk 7 a (by decide) (by decide) (by decide) (by decide) (by decide)) (fun _ => br_c (fun a => dk 8 a (by decide) (by decide) (by decide) (by decide) (by decide)) (fun _ => br_c (fun a => dk 9 a (by decide) (by decide) (by decide) (by decide) (by decide)) (fun _ => br_c (fun a => ?_) (fun _ => br_c (fun a => dB (Or.inl a)) (fun _ => br_c (fun a => dA (Or.inr (Or.inr (Or.inl a)))) (fun _ =>
    br_c (fun a => dk 13 a (by decide) (by decide) (by decide) (by decide) (by decide)) (fun _ => br_c (fun a => d172 (Or.inl a)) (fun _ => br_c (fun a => d172 (Or.inr (Or.inl a))) (fun _ => br_c (fun a => d172 (Or.inr (Or.inr a))) (fun _ => br_c (fun a => dk 17 a (by decide) (by decide) (by decide) (by decide) (by decide)) (fun _ => br_c (fun a => dA (Or.inr (Or.inr (Or.inr (Or.inl a))))) (fun _ =>
    br_c (fun a => dk 19 a (by decide) (by decide) (by decide) (by decide) (by decide)) (fun _ => br_c (fun a => dA (Or.inr (Or.inr (Or.inr (Or.inr (Or.inl a)))))) (fun _ => br_c (fun a => dB (Or.inr a)) (fun _ => br_c (fun a => dk 22 a (by decide) (by decide) (by decide) (by decide) (by decide)) (fun _ => br_c (fun a => dk 23 a (by decide) (by decide) (by decide) (by decide) (by decide)) (fun _ => br_c (fun a => dk 24 a (by decide) (by decide) (by decide) (by decide) (by decide)) (fun _ =>
    br_c (fun a => dk 25 a (by decide) (by decide) (by decide) (by decide) (by decide)) (fun _ => br_c (fun a => dk 26 a (by decide) (by decide) (by decide) (by decide) (by decide)) (fun _ => br_c (fun a => dk 27 a (by decide) (by decide) (by decide) (by decide) (by decide)) (fun _ => br_c (fun a => dA (Or.inr (Or.inr (Or.inr (Or.inr (Or.inr a)))))) (fun _ => True.intro)))))))))))))))))))))))))))))
  · have : q = 0 ∨ q = 1 := by
      rw [eq] at a
      have := (nI_ltI (b := 2) (by omega) (by decide)).mp a
      omega
    rcases this with z | z
    · subst z; exact dk 0 eq (by decide) (by decide) (by decide) (by decide) (by decide)
    · subst z; exact dk 1 eq (by decide) (by decide) (by decide) (by decide) (by decide)
  · have : q = 29 := by
      rw [eq] at a
      have := (nI_ltI (a := 28) (by decide) (by omega)).mp a
      omega
    subst this
    exact dk 29 eq (by decide) (by decide) (by decide) (by decide) (by decide)
  · have a1 : ¬ (xa_kinds u i = 2 ∨ xa_kinds u i = 4 ∨ xa_kinds u i = 12 ∨ xa_kinds u i = 18 ∨ xa_kinds u i = 20 ∨ xa_kinds u i = 28) := by rw [a]; decide
    rw [if_neg a1, if_neg (by rw [a]; decide), if_neg (by rw [a]; decide), if_neg (by rw [a]; decide), if_pos a] at h
    rw [ux_readBySections]
    have key := xr_sel S hi a h (st_e (xa_kinds u) i n - (i + 1)) (i + 1) (by have := sx_end S hi (Or.inr (Or.inr (Or.inr a))); omega) (by omega) _ (Nat.lt_succ_self _)
    rw [un_sel_0 (i + 1) (Nat.le_refl _)] at key
    exact nm_r (nI_1 _) ⟨_, key⟩
  · have a1 : ¬ (xa_kinds u i = 2 ∨ xa_kinds u i = 4 ∨ xa_kinds u i = 12 ∨ xa_kinds u i = 18 ∨ xa_kinds u i = 20 ∨ xa_kinds u i = 28) := by rw [a]; decide
    rw [if_neg a1, if_pos a] at h
    rw [nx_or]; exact h
theorem xr_sets {post : Int32 → Prop} {u : SX} {n i : Nat} (S : sx_st u n) (hi : i < n) (h : post (nI (un_s (xa_kinds u) (xa_argA u) (xa_argC u) i))) : wpX_variablesSet post u (nI i) := by
  have n60 := S.2.1.1
  have ci : (nI i).toNatClampNeg = i := nI_clamp (by omega)
  have vi : vp_in (nI i) 60 := vp_in_nI (by omega) (by decide)
  obtain ⟨L1, L2, L3, L4, L5, L6⟩ := S.2.2.2.2.2.1 i hi
  have d19 : xa_kinds u i = 8 ∨ xa_kinds u i = 11 → cx_variablesSet_19 post (nI i) u := by
    intro k
    obtain ⟨a, ha, ea⟩ := L3 (k.elim Or.inl (fun z => Or.inr (Or.inl z)))
    obtain ⟨c, hc, ec⟩ := L4 k
    unfold un_s at h
    rw [if_pos k, ea, ec, un_b_nI ha, un_b_nI hc] at h
    rw [ux_variablesSet_19, ci, ea, ec, un_shl a ha, un_shl c hc, nx_or]
    exact ⟨vi, vi, h⟩
  have dA : ¬ (xa_kinds u i = 8 ∨ xa_kinds u i = 11) → ln_set (xa_kinds u i) → post ((1 : Int32) <<< (xa_argA u i &&& 31)) := by
    intro k s
    obtain ⟨a, ha, ea⟩ := L3 s
    unfold un_s at h
    rw [if_neg k, if_pos s, ea, un_b_nI ha] at h
    rw [ea, un_shl a ha]; exact h
  rw [ux_variablesSet, ci]
  refine ⟨vi, nm_e (br_c (fun a => d19 (Or.inr a)) (fun n11 => br_c (fun a => d19 (Or.inl a)) (fun n8 => br_c (fun a => ⟨vi, dA (fun z => z.elim n8 n11) (by rw [a]; decide)⟩) (fun n13 => br_c (fun a => ⟨vi, dA (fun z => z.elim n8 n11) (by rw [a]; decide)⟩) (fun n19 => xb_comp (fun b1 b2 => br_f (by decide) ⟨vi, dA (fun z => z.elim n8 n11) ?_⟩) (fun b => br_t rfl ?_))))))⟩
  · have := comp_rng.mpr ⟨b1, b2⟩
    exact Or.inr (Or.inr (Or.inr (Or.inr this)))
  · unfold un_s at h
    rw [if_neg (fun z => z.elim n8 n11), if_neg] at h
    · exact h
    · intro s
      rcases s with s | s | s | s | s
      · exact n8 s
      · exact n11 s
      · exact n13 s
      · exact n19 s
      · have := comp_rng.mp s
        exact b.elim this.1 this.2
/-- an IF has one ELSE alone -/
theorem un_else1 {K : Nat → Int32} {n i t j : Nat} (ok : ∀ j, j < n → fm_ok K j) (t1 : t < n) (t2 : K t = 3) (t3 : (st_s K t).head? = some i) (j1 : j < n) (j2 : K j = 3) (j3 : (st_s K j).head? = some i) : t = j := by
  have key : ∀ a b, a < n → b < n → K a = 3 → K b = 3 → (st_s K a).head? = some i → (st_s K b).head? = some i → a < b → False := by
    intro a b ha hb ka kb sa sb hab
    obtain ⟨r, e, _⟩ := un_hdo sb
    have := ok b hb
    rw [fm_cons e] at this
    rcases this.2 with w | w | w
    · rw [kb] at w; exact absurd w (by decide)
    · rw [kb] at w; exact absurd w.1 (by decide)
    · exact (w.2.2.2.1 kb).2 ⟨a, hab, ka, sa⟩
  rcases Nat.lt_trichotomy t j with h | h | h
  · exact (key t j t1 j1 t2 j2 t3 j3 h).elim
  · exact h
  · exact (key j t j1 t1 j2 t2 j3 t3 h).elim
