/-! the DEFAULT or AFTER of a SELECT -/
theorem n_ge {K : Nat → Int32} {P : Int32 → Bool} {o j : Nat} (h1 : (st_s K j).head? = some o) (h2 : P (K j) = true) : ∀ i, j < i → 0 < st_n K P o i := by
  intro i
  induction i with
  | zero => intro h; omega
  | succ i ih =>
    intro h
    rw [xn_cnt]
    by_cases e : j = i
    · subst e
      rw [if_pos ⟨h1, h2⟩]; omega
    · have := ih (by omega)
      omega
/-- a section of SELECT w -/
def al_is (K : Nat → Int32) (n w j : Nat) : Prop := j < n ∧ (st_s K j).head? = some w ∧ st_pa (K j) = true
theorem al_lt {K : Nat → Int32} {n w j j' : Nat} (ok : ∀ j, j < n → fm_ok K j) (h : al_is K n w j) (h' : al_is K n w j') : ¬ j < j' := by
  intro lt
  obtain ⟨a1, a2, a3⟩ := h'
  cases e : st_s K j' with
  | nil => rw [e] at a2; exact absurd a2 (by simp)
  | cons o r =>
    rw [e] at a2
    have ow : o = w := by simpa using a2
    subst ow
    have pc : st_pc (K j') = false := by
      rcases st_pa_iff.mp a3 with k | k <;> (rw [k]; decide)
    have ge := n_ge (P := st_pa) h.2.1 h.2.2 j' lt
    obtain ⟨_, h | ⟨_, _, _, h⟩ | ⟨_, h, _⟩⟩ := (fm_cons e).mp (ok j' a1)
    · rw [h] at a3; exact absurd a3 (by decide)
    · have := h pc; omega
    · exact absurd (sec_or.mpr (Or.inr a3)) h
theorem al_u {K : Nat → Int32} {n w j j' : Nat} (ok : ∀ j, j < n → fm_ok K j) (h : al_is K n w j) (h' : al_is K n w j') : j = j' := by
  have a := al_lt ok h h'
  have b := al_lt ok h' h
  omega
theorem al_in {K : Nat → Int32} {n w j : Nat} (W : st_wf K n) (hj : j < n) (h : (st_s K j).head? = some w) (n1 : ¬ K j = 1) : w < j ∧ j < st_e K w n := by
  obtain ⟨r, er, oi, _, rs⟩ := un_hdo h
  obtain ⟨p1, p2, p3, p4⟩ := st_e_of W.2.2.1 W.2.1 (l := []) (Nat.le_of_lt hj) er
  refine ⟨oi, ?_⟩
  by_cases e : j = st_e K w n
  · rw [← e] at p3; exact absurd p3 n1
  · omega
theorem al_n1 {k : Int32} (h : st_pa k = true) : ¬ k = 1 := by
  rcases st_pa_iff.mp h with z | z <;> (rw [z]; decide)
theorem xa_alt {post : Int32 → Prop} {u : SX} {n w : Nat} (T : sx_st u n) (hw : w < n) (k6 : xa_kinds u w = 6) (hS : ∀ j, al_is (xa_kinds u) n w j → post (nI j)) (hN : (∀ j, ¬ al_is (xa_kinds u) n w j) → post (-1)) : wpX_alternativeOf post u (nI w) := by
  have n60 := T.2.1.1
  have op : st_op (xa_kinds u w) := by rw [k6]; decide
  obtain ⟨e1, e2, e3⟩ := sx_end T hw op
  have vw : vp_in (nI w) 60 := vp_in_nI (by omega) (by decide)
  have cw : (nI w).toNatClampNeg = w := nI_clamp (by omega)
  have key : ∀ d i, i + d = st_e (xa_kinds u) w n → w < i → (∀ j, j < i → ¬ al_is (xa_kinds u) n w j) → ∀ m, d < m → cx_alternativeOf_4 post (nI w) u m (nI i) := by
    intro d
    induction d with
    | zero =>
      intro i hi hwi hno m hm
      obtain ⟨m, rfl⟩ : ∃ q, m = q + 1 := ⟨m - 1, by omega⟩
      rw [ux_alternativeOf_4, cw, e1]
      refine ⟨vw, br_t (nI_le (by omega) (by omega)) (hN (fun j hj => ?_))⟩
      have := al_in T.2.1 hj.1 hj.2.1 (al_n1 hj.2.2)
      exact hno j (by omega) hj
    | succ d ih =>
      intro i hi hwi hno m hm
      obtain ⟨m, rfl⟩ : ∃ q, m = q + 1 := ⟨m - 1, by omega⟩
      have vi : vp_in (nI i) 60 := vp_in_nI (by omega) (by decide)
      have ci : (nI i).toNatClampNeg = i := nI_clamp (by omega)
      have nx : ¬ al_is (xa_kinds u) n w i → cx_alternativeOf_4 post (nI w) u m (nI (i + 1)) := fun z => ih (i + 1) (by omega) (by omega) (fun j hj => by
        by_cases e : j = i
        · subst e; exact z
        · exact hno j (by omega)) m (by omega)
      rw [ux_alternativeOf_4, cw, e1, ci, T.2.2.2.2.1.1 i (by omega)]
      refine ⟨vw, br_f (nI_ge (by omega) (by omega)) ⟨vi, br_c (fun z => ⟨vi, ?_⟩) (fun z => nm_r (nI_1 _) (nx (fun a => z ?_)))⟩⟩
      · have hd := (st_hd_iff (fun b hb => by have := (st_lt hb).1; omega) (by omega)).mp z
        exact xk_alt (fun a => br_f (by decide) (hS i ⟨by omega, hd, a⟩)) (fun a => br_t rfl (nm_r (nI_1 _) (nx (fun q => by rw [q.2.2] at a; cases a))))
      · exact (st_hd_iff (fun b hb => by have := (st_lt hb).1; omega) (by omega)).mpr a.2.1
  rw [ux_alternativeOf]
  exact nm_r (nI_1 _) ⟨_, key (st_e (xa_kinds u) w n - (w + 1)) (w + 1) (by omega) (by omega) (fun j hj a => by have := al_in T.2.1 a.1 a.2.1 (al_n1 a.2.2); omega) _ (Nat.lt_succ_self _)⟩
theorem al_P {K : Nat → Int32} {w j : Nat} (h : (st_s K j).head? = some w) (s : st_sec (K j)) : st_P K w j := ⟨h, Or.inr s⟩
theorem yl_aft {post : SY → Prop} {v : SY} {n w j : Nat} {g : Int32} (T : sy_st v n) (hw : w < n) (k6 : ya_kind v w = 6) (hj : j < n) (hh : (st_s (ya_kind v) j).head? = some w) (k29 : ya_kind v j = 29) (h : cy_late_52 post g (nI j) v) :
    ∀ d i, (i = w ∨ (st_P (ya_kind v) w i ∧ i < n)) → i < j → j - i ≤ d → ∀ (Q : Int32 → Prop), (∀ r, cy_late_31 post g (nI w) v d r → Q r) → wpY_part Q v (nI w) (nI i) := by
  have n60 := T.2.1.1
  have op : st_op (ya_kind v w) := by rw [k6]; decide
  have pj : st_P (ya_kind v) w j := al_P hh (by rw [k29]; decide)
  have aj : al_is (ya_kind v) n w j := ⟨hj, hh, by rw [k29]; decide⟩
  have ein := al_in T.2.1 hj hh (by rw [k29]; decide)
  intro d
  induction d with
  | zero => intro i _ h1 h2; omega
  | succ d ih =>
    intro i hi ij hd Q hQ
    refine sy_part T hw op hi (fun j' a1 a2 a3 a4 => hQ _ ?_) (fun z => absurd pj (z j ij ein.2))
    have j'n : j' < n := by
      have := (un_opn T.2.1 hw op).2.1
      omega
    have le : ¬ j < j' := fun z => a4 j ij z pj
    rw [uy_late_31, nI_clamp (show j' < 2 ^ 31 by omega)]
    refine ⟨vp_in_nI (by omega) (by decide), br_c (fun k => ?_) (fun k => ?_)⟩
    · have : j' = j := al_u T.2.2.2.1 ⟨j'n, a3.1, by rw [k]; decide⟩ aj
      rw [this]; exact h
    · have ne : ¬ j' = j := fun z => k (by rw [z]; exact k29)
      exact ih j' (Or.inr ⟨a3, j'n⟩) (by omega) (by omega) _ (fun r hr => hr)
