/-! the longest waiting goroutine: both -/
def wl_ln (K : Nat → Int32) (sn : Int32) (l : Nat) : Prop := (sn = 0 ∧ (K l = 8 ∨ K l = 11)) ∨ (¬ sn = 0 ∧ (K l = 7 ∨ K l = 10))
theorem wl_lk {K A B vars : Nat → Int32} {t m c l : Nat} {sn : Int32} (h : wl_is K A B vars t m c sn l) (k : K l = 7 ∨ K l = 8 ∨ K l = 10 ∨ K l = 11) : wl_ln K sn l := by
  rcases h.2 with ⟨a, b, _⟩ | ⟨a, b, _⟩
  · refine Or.inl ⟨a, ?_⟩
    rcases k with z | z | z | z
    · exact absurd (Or.inl z) b
    · exact Or.inl z
    · exact absurd (Or.inr z) b
    · exact Or.inr z
  · exact Or.inr ⟨a, b⟩
theorem n_ex {K : Nat → Int32} {P : Int32 → Bool} {o i : Nat} : ∀ n, i < st_n K P o n → ∃ l, l < n ∧ (st_s K l).head? = some o ∧ P (K l) = true ∧ st_n K P o l = i := by
  intro n
  induction n with
  | zero => intro h; exact absurd h (Nat.not_lt_zero _)
  | succ n ih =>
    intro h
    rw [xn_cnt] at h
    by_cases c : i < st_n K P o n
    · obtain ⟨l, a, b⟩ := ih c
      exact ⟨l, by omega, b⟩
    · by_cases z : (st_s K n).head? = some o ∧ P (K n) = true
      · rw [if_pos z] at h
        exact ⟨n, by omega, z.1, z.2, by omega⟩
      · rw [if_neg z] at h; omega
/-- what is known of the waiting goroutine's slot -/
theorem wt_slot {W : Nat} {u : SX} {v : SY} {n g j i c : Nat} {sn : Int32} (ok : ∀ j, j < n → fm_ok (xa_kinds u) j) (c1 : 1 ≤ c) (c8 : c ≤ 8) (H : rl_wt W u v n g (j + 1)) (hi : i < 3) (h : xa_slotWish u (3 * g + i) = wsh c sn) : ∃ l, l < n ∧ xa_slotLine u (3 * g + i) = nI l ∧ wl_ln (xa_kinds u) sn l := by
  obtain ⟨w, z1, z2, z3, z4, ⟨s1, s2, s3⟩, z6, z7, m, m8, em⟩ := H
  have s2 : xa_kinds u w = 10 ∨ xa_kinds u w = 11 → xa_slotWish u (3 * g) = rl_wish (xa_kinds u) (xa_argA u) (xa_argB u) (xa_variables u) (4 * g + j) (ya_channels v g) w ∧ xa_slotLine u (3 * g) = nI w ∧ xa_slotWish u (3 * g + 1) = 0 ∧ xa_slotWish u (3 * g + 2) = 0 := s2
  have s3 : xa_kinds u w = 6 → (∀ l, l < n → (st_s (xa_kinds u) l).head? = some w → st_pc (xa_kinds u l) = true → xa_slotLine u (3 * g + st_n (xa_kinds u) st_pc w l) = nI l ∧ xa_slotWish u (3 * g + st_n (xa_kinds u) st_pc w l) = rl_wish (xa_kinds u) (xa_argA u) (xa_argB u) (xa_variables u) (4 * g + j) (ya_channels v g) l) ∧ ∀ i, st_n (xa_kinds u) st_pc w n ≤ i → i < 3 → xa_slotWish u (3 * g + i) = 0 := s3
  rw [em] at s2 s3
  have nz := wsh_0 (c := c) (sn := sn) c1 c8
  have one : xa_kinds u w = 10 ∨ xa_kinds u w = 11 → ∃ l, l < n ∧ xa_slotLine u (3 * g + i) = nI l ∧ wl_ln (xa_kinds u) sn l := by
    intro k
    obtain ⟨a, b, c', d⟩ := s2 k
    rcases (show i = 0 ∨ i = 1 ∨ i = 2 by omega) with e | e | e <;> subst e
    · refine ⟨w, z1, b, wl_lk ((wi_w c1 c8 m8).mp (a.symm.trans h)) ?_⟩
      rcases k with k | k
      · exact Or.inr (Or.inr (Or.inl k))
      · exact Or.inr (Or.inr (Or.inr k))
    · exact absurd (c'.symm.trans h) nz
    · exact absurd (d.symm.trans h) nz
  rcases z2 with k | k | k | k
  · obtain ⟨a, b⟩ := s3 k
    rcases Nat.lt_or_ge i (st_n (xa_kinds u) st_pc w n) with q | q
    · obtain ⟨l, l1, l2, l3, l4⟩ := n_ex n q
      obtain ⟨x1, x2⟩ := a l l1 l2 l3
      rw [l4] at x1 x2
      refine ⟨l, l1, x1, wl_lk ((wi_w c1 c8 m8).mp (x2.symm.trans h)) ?_⟩
      rcases st_pc_iff.mp l3 with z | z
      · exact Or.inl z
      · exact Or.inr (Or.inl z)
    · exact absurd ((b i q hi).symm.trans h) nz
  · exact one (Or.inl k)
  · exact one (Or.inr k)
  · exact absurd ((s1 k i hi).symm.trans h) nz
theorem nw_fs {u : SX} {g c : Nat} {sn : Int32} (c1 : 1 ≤ c) (c8 : c ≤ 8) (h : rl_nw u g) : fs (xa_slotWish u) (wsh c sn) g = none := fs_no (fun i hi => by rw [h.2 i hi]; exact wsh_0 c1 c8)
/-- the running goroutine waits for nothing -/
def rn_ok (r : Option Nat) (u : SX) (v : SY) : Prop := ∀ q, r = some q → rl_nw u q ∧ ya_status v q = 1
theorem go_fs {W : Nat} {u : SX} {v : SY} {n g c i : Nat} {sn : Int32} (c1 : 1 ≤ c) (c8 : c ≤ 8) (G : rl_go W u v n g) (h : fs (xa_slotWish u) (wsh c sn) g = some i) : xa_status u g = 2 := by
  obtain ⟨d, d4, e1, e2, H⟩ := G
  rcases H with ⟨h1, h2, h3, h4, h5, h6⟩ | ⟨h1, h2, h3, h4, h5, H⟩
  · rw [nw_fs c1 c8 h4] at h; cases h
  · rcases H with ⟨k1, k2, k3, k4, k5⟩ | ⟨k1, k2, k3, k4, k5⟩ | ⟨k1, k2, k3, k4, p, k5, k6, k7⟩
    · exact k1
    · rw [nw_fs c1 c8 k5] at h; cases h
    · rw [nw_fs c1 c8 k4] at h; cases h
theorem wl_all {Q : Int32 → Prop} {W : Nat} {r : Option Nat} {u : SX} {v : SY} {n S g c : Nat} {sn : Int32} (H : rl_co W r u v n S) (Hr : rn_ok r u v) (hg : g < 12) (c1 : 1 ≤ c) (c8 : c ≤ 8) (hsn : sn = 0 ∨ sn = 1)
    (hS : ∀ i l, g < S → fs (xa_slotWish u) (wsh c sn) g = some i → xa_slotLine u (3 * g + i) = nI l → l < n → Q (nI l)) (hN : (S ≤ g ∨ fs (xa_slotWish u) (wsh c sn) g = none) → Q (-1)) : wpY_waitLine Q v (nI g) (nI c) sn := by
  obtain ⟨b1, b2, b3, b4, b5, b6, b7, b8, b9, b10⟩ := id H
  obtain ⟨L0, B1, B2, B3, B4, B5, B6, B7, B8, B9, B10, B11, B12, B13, B14, B15, B16, B17, B18, B19, B20, B21, B22⟩ := id b1
  have TY := sy_bs b1 b2
  have n60 := b2.2.1.1
  have vg : vp_in (nI g) 12 := vp_in_nI hg (by decide)
  have cg : (nI g).toNatClampNeg = g := nI_clamp (by omega)
  have off : ¬ ya_status v g = 2 → (S ≤ g ∨ fs (xa_slotWish u) (wsh c sn) g = none) → wpY_waitLine Q v (nI g) (nI c) sn := by
    intro a b
    rw [uy_waitLine, cg]
    exact ⟨vg, br_f a (hN b)⟩
  by_cases gS : g < S
  · by_cases gr : r = some g
    · obtain ⟨q1, q2⟩ := Hr g gr
      exact off (by rw [q2]; decide) (Or.inr (nw_fs c1 c8 q1))
    · have G := b10 g gS (fun z => gr z.symm)
      obtain ⟨d, d4, e1, e2, K⟩ := id G
      rcases K with ⟨h1, h2, h3, h4, h5, h6⟩ | ⟨h1, h2, h3, h4, h5, K⟩
      · exact off (by rw [h3]; decide) (Or.inr (nw_fs c1 c8 h4))
      · obtain ⟨j, rfl⟩ : ∃ j, d = j + 1 := ⟨d - 1, by omega⟩
        rcases K with ⟨k1, k2, k3, k4, w, z1, z2, z3, z4, ⟨s1, s2, s3⟩, z6, z7, m, m8, em⟩ | ⟨k1, k2, k3, k4, k5⟩ | ⟨k1, k2, k3, k4, p, k5, k6, k7⟩
        · have z4 : ya_pc v (4 * g + j) = nI w := z4
          have s2 : xa_kinds u w = 10 ∨ xa_kinds u w = 11 → xa_slotWish u (3 * g) = rl_wish (xa_kinds u) (xa_argA u) (xa_argB u) (xa_variables u) (4 * g + j) (ya_channels v g) w ∧ xa_slotLine u (3 * g) = nI w ∧ xa_slotWish u (3 * g + 1) = 0 ∧ xa_slotWish u (3 * g + 2) = 0 := s2
          have s3 : xa_kinds u w = 6 → (∀ l, l < n → (st_s (xa_kinds u) l).head? = some w → st_pc (xa_kinds u l) = true → xa_slotLine u (3 * g + st_n (xa_kinds u) st_pc w l) = nI l ∧ xa_slotWish u (3 * g + st_n (xa_kinds u) st_pc w l) = rl_wish (xa_kinds u) (xa_argA u) (xa_argB u) (xa_variables u) (4 * g + j) (ya_channels v g) l) ∧ ∀ i, st_n (xa_kinds u) st_pc w n ≤ i → i < 3 → xa_slotWish u (3 * g + i) = 0 := s3
          rw [em] at s2 s3
          have cw : (nI w).toNatClampNeg = w := nI_clamp (by omega)
          have vw : vp_in (nI w) 60 := vp_in_nI (by omega) (by decide)
          have nz := wsh_0 (c := c) (sn := sn) c1 c8
          have gt : ¬ c ≤ m → fs (xa_slotWish u) (wsh c sn) g = none := by
            intro cm
            refine fs_no (fun i hi h => ?_)
            have nis : ∀ l, ¬ rl_wish (xa_kinds u) (xa_argA u) (xa_argB u) (xa_variables u) (4 * g + j) (nI m) l = wsh c sn := fun l z => cm ((wi_w c1 c8 m8).mp z).1
            have one : xa_kinds u w = 10 ∨ xa_kinds u w = 11 → False := by
              intro k
              obtain ⟨a, b, c', d⟩ := s2 k
              rcases (show i = 0 ∨ i = 1 ∨ i = 2 by omega) with e | e | e <;> subst e
              · exact nis w (a.symm.trans h)
              · exact nz (c'.symm.trans h)
              · exact nz (d.symm.trans h)
            rcases z2 with k | k | k | k
            · obtain ⟨a, b⟩ := s3 k
              rcases Nat.lt_or_ge i (st_n (xa_kinds u) st_pc w n) with q | q
              · obtain ⟨l, l1, l2, l3, l4⟩ := n_ex n q
                have x2 := (a l l1 l2 l3).2
                rw [l4] at x2
                exact nis l (x2.symm.trans h)
              · exact nz ((b i q hi).symm.trans h)
            · exact one (Or.inl k)
            · exact one (Or.inr k)
            · exact nz ((s1 k i hi).symm.trans h)
          rw [uy_waitLine, cg, k2, em]
          refine ⟨vg, br_t rfl ⟨vg, ?_⟩⟩
          by_cases cm : c ≤ m
          · refine br_t (nI_le cm (by omega)) (yg_topOf (d := j + 1) hg (by omega) e2 ?_)
            rw [show 4 * g + (j + 1) - 1 = 4 * g + j from rfl, nI_clamp (show 4 * g + j < 2 ^ 31 by omega)]
            refine ⟨vp_in_nI (by omega) (by decide), nm_r z4 ?_⟩
            rw [cw, B1]
            have one : (xa_kinds u w = 10 ∨ xa_kinds u w = 11) → cy_waitLine_72 Q (nI g) (nI c) sn (nI w) v := by
              intro k
              obtain ⟨a, b, c', d⟩ := s2 k
              have no : ¬ wl_is (xa_kinds u) (xa_argA u) (xa_argB u) (xa_variables u) (4 * g + j) m c sn w → Q (-1) := fun z => hN (Or.inr (fs_no (fun i hi h => by
                rcases (show i = 0 ∨ i = 1 ∨ i = 2 by omega) with e | e | e <;> subst e
                · exact z ((wi_w c1 c8 m8).mp (a.symm.trans h))
                · exact nz (c'.symm.trans h)
                · exact nz (d.symm.trans h))))
              have yes : wl_is (xa_kinds u) (xa_argA u) (xa_argB u) (xa_variables u) (4 * g + j) m c sn w → Q (nI w) := fun z => hS 0 w gS (fs_is (by decide) (a.trans ((wi_w c1 c8 m8).mpr z)) (fun i hi => by omega)) b z1
              rw [uy_waitLine_72, cw, B1]
              refine ⟨vw, ?_⟩
              rcases k with k | k
              · refine br_t k ?_
                rw [uy_waitLine_89, cw, B2]
                refine br_c (fun e => ?_) (fun e => no (fun z => ?_))
                · refine br_f (by rw [← e]; decide) ⟨vw, ?_⟩
                  rw [uy_waitLine_118]
                  refine yv_val hg (by omega) e2 ?_
                  rw [B18]
                  refine br_c (fun x => yes ⟨cm, Or.inr ⟨by rw [← e]; decide, Or.inr k, x⟩⟩) (fun x => no (fun z => ?_))
                  rcases z.2 with ⟨q, _⟩ | ⟨_, _, q⟩
                  · rw [← e] at q; exact absurd q (by decide)
                  · exact x q
                · rcases z.2 with ⟨_, q, _⟩ | ⟨q, _⟩
                  · exact q (Or.inr k)
                  · rcases hsn with y | y
                    · exact q y
                    · exact e y.symm
              · refine br_f (by rw [k]; decide) ?_
                have n7 : ¬ (xa_kinds u w = 7 ∨ xa_kinds u w = 10) := by rw [k]; decide
                rw [uy_waitLine_89, cw, B3]
                refine br_c (fun e => ?_) (fun e => no (fun z => ?_))
                · refine br_t e.symm ⟨vw, ?_⟩
                  rw [uy_waitLine_118]
                  refine yv_val hg (by omega) e2 ?_
                  rw [B18]
                  refine br_c (fun x => yes ⟨cm, Or.inl ⟨e.symm, n7, x⟩⟩) (fun x => no (fun z => ?_))
                  rcases z.2 with ⟨_, _, q⟩ | ⟨q, _⟩
                  · exact x q
                  · exact q e.symm
                · rcases z.2 with ⟨q, _⟩ | ⟨_, q, _⟩
                  · exact e q.symm
                  · exact n7 q
            refine ⟨vw, ?_⟩
            rcases z2 with k | k | k | k
            · refine br_f (by rw [k]; decide) ⟨vw, br_f (by rw [k]; decide) ⟨vw, br_f (by rw [k]; decide) ?_⟩⟩
              obtain ⟨a, b⟩ := s3 k
              exact wl_sel (u := u) TY hg (by omega) e2 B1 B2 B3 B18 z1 k c1 c8 m8 cm hsn a b (fun i l x1 x2 x3 _ _ => hS i l gS x1 x2 x3) (fun x => hN (Or.inr x)) n w (Or.inl rfl) (by omega) (fun i hi => by rw [xn_0 (w + 1) (Nat.le_refl _)] at hi; omega) _ (fun r hr => ⟨_, hr⟩)
            · exact br_f (by rw [k]; decide) ⟨vw, br_t k (one (Or.inl k))⟩
            · exact br_f (by rw [k]; decide) ⟨vw, br_f (by rw [k]; decide) ⟨vw, br_t k (one (Or.inr k))⟩⟩
            · refine br_t k (hN (Or.inr (fs_no (fun i hi => ?_))))
              rw [s1 k i hi]; exact nz
          · exact br_f (fun z => cm ((nI_leI (by omega) (by omega)).mp z)) (hN (Or.inr (gt cm)))
        · exact off (by rw [k2]; decide) (Or.inr (nw_fs c1 c8 k5))
        · exact off (by rw [k2]; decide) (Or.inr (nw_fs c1 c8 k4))
  · have := (b6 g (by omega) hg).1
    exact off (by rw [this]; decide) (Or.inl (by omega))
/-- the best goroutine, of both -/
def bst (u : SX) (S c : Nat) (sn : Int32) : Option Nat := gb (fs (xa_slotWish u) (wsh c sn)) (xa_waitOrder u) S
theorem lo_x {post : Int32 → Prop} {W : Nat} {r : Option Nat} {u : SX} {v : SY} {n S c : Nat} {sn : Int32} (H : rl_co W r u v n S) (h : post (sI (fs (xa_slotWish u) (wsh c sn)) (bst u S c sn))) : wpX_longestWaiting post u (wsh c sn) := xl_long H.2.2.1 H.2.2.2.2.1 h
theorem lo_y {post : Int32 → Prop} {W : Nat} {r : Option Nat} {u : SX} {v : SY} {n S c : Nat} {sn : Int32} (H : rl_co W r u v n S) (Hr : rn_ok r u v) (c1 : 1 ≤ c) (c8 : c ≤ 8) (hsn : sn = 0 ∨ sn = 1) (h : post (oI (bst u S c sn))) : wpY_longest post v (nI c) sn := by
  have B22 : ya_since v = xa_waitOrder u := H.1.2.2.2.2.2.2.2.2.2.2.2.2.2.2.2.2.2.2.2.2.2.2
  have n60 := H.2.1.2.1.1
  refine yl_long (F := fs (xa_slotWish u) (wsh c sn)) H.2.2.1 (fun g hg Q h1 h2 => wl_all H Hr hg c1 c8 hsn (fun i l a b _ d => h1 _ (nI_pos (by omega)) ⟨a, i, b⟩) h2) ?_
  rw [B22]; exact h
theorem lo_some {W : Nat} {r : Option Nat} {u : SX} {v : SY} {n S c b : Nat} {sn : Int32} (H : rl_co W r u v n S) (Hr : rn_ok r u v) (c1 : 1 ≤ c) (c8 : c ≤ 8) (hsn : sn = 0 ∨ sn = 1) (h : bst u S c sn = some b) :
    ∃ i l j, i < 3 ∧ b < S ∧ ¬ some b = r ∧ fs (xa_slotWish u) (wsh c sn) b = some i ∧ sI (fs (xa_slotWish u) (wsh c sn)) (bst u S c sn) = nI (3 * b + i) ∧ xa_slotLine u (3 * b + i) = nI l ∧ l < n ∧ l + 1 < n ∧ wl_ln (xa_kinds u) sn l ∧ xa_status u b = 2 ∧ ya_status v b = 2 ∧ j < 4 ∧ xa_depth u b = nI (j + 1) ∧ ya_depth v b = nI (j + 1) ∧ ∀ Q : Int32 → Prop, Q (nI l) → wpY_waitLine Q v (nI b) (nI c) sn := by
  obtain ⟨bS, i, ei⟩ := gb_in S b h
  have n60 := H.2.1.2.1.1
  have hS := H.2.2.1
  obtain ⟨i3, iw, _⟩ := fs_some ei
  have br : ¬ some b = r := by
    intro z
    have := nw_fs (c := c) (sn := sn) c1 c8 (Hr b z.symm).1
    rw [ei] at this; cases this
  have G := H.2.2.2.2.2.2.2.2.2 b bS br
  have st := go_fs c1 c8 G ei
  obtain ⟨d, g1, g2, g3, g4, g5, g6, g7, g8, g9, g10, g11, g12⟩ := go_wait G st
  obtain ⟨j, rfl⟩ : ∃ j, d = j + 1 := ⟨d - 1, by omega⟩
  obtain ⟨l, l1, l2, l3⟩ := wt_slot H.2.1.2.2.2.1 c1 c8 g12 i3 iw
  have k1 : ¬ xa_kinds u l = 1 := by
    rcases l3 with ⟨_, k | k⟩ | ⟨_, k | k⟩ <;> (rw [k]; decide)
  refine ⟨i, l, j, i3, bS, br, ei, ?_, l2, l1, st_nx H.2.1.2.1 l1 k1, l3, st, g9, by omega, g3, g4, fun Q q => wl_all H Hr (by omega) c1 c8 hsn (fun i' l' _ a b c' => ?_) (fun z => ?_)⟩
  · rw [h]
    show nI (3 * b + (fs (xa_slotWish u) (wsh c sn) b).getD 0) = _
    rw [ei]; rfl
  · rw [ei] at a
    injection a with a
    subst a
    rw [l2] at b
    have : l = l' := (nI_eq (by omega) (by omega)).mp b
    subst this
    exact q
  · rcases z with z | z
    · omega
    · rw [ei] at z; cases z
theorem mid_rn {W : Nat} {u : SX} {v : SY} {n S g d : Nat} (H : rl_mid W u v n S g d) : rn_ok (some g) u v := by
  intro q hq
  injection hq with hq
  subst hq
  exact ⟨H.2.2.2.2.2.2.2.2.2.2.2.2.2.2.2, H.2.2.2.2.2.2.2.2.2.2.2.2.1⟩
theorem rn_none {u : SX} {v : SY} : rn_ok none u v := fun q hq => by cases hq
