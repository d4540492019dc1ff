/-! X: the moves between the lines -/
def mv (k : Nat) (u u' : SX) : Prop := ∀ (P : SX → Prop) (m i : Nat), i + k ≤ 1000000 → cx_settle_2 P m (nI (i + k)) u' → cx_settle_2 P (m + k) (nI i) u
theorem mv_0 {u : SX} : mv 0 u u := fun _ _ _ _ h => h
theorem mv_t {k k' : Nat} {u u' u'' : SX} (a : mv k u u') (b : mv k' u' u'') : mv (k + k') u u'' := by
  intro P m i hi h
  have h2 := b P m (i + k) (by omega) (by rw [Nat.add_assoc]; exact h)
  have h3 := a P (m + k') i (by omega) h2
  rw [show m + (k + k') = m + k' + k by omega]
  exact h3
/-- the running goroutine of X -/
def xr_ok (u : SX) (g d : Nat) : Prop := xa_state u = 1 ∧ xa_running u = nI g ∧ g < 12 ∧ 0 < d ∧ d ≤ 4 ∧ xa_depth u g = nI d
theorem mv_on {u u' : SX} {g d : Nat} (h : xr_ok u g d) (hm : xa_mode u (4 * g + d - 1) = 0) (hq : ∀ Q : Int32 → SX → Prop, Q 1 u' → wpX_movedOn Q u (nI (4 * g + d - 1))) : mv 1 u u' := by
  obtain ⟨hs, hr, hg, d0, d4, hd⟩ := h
  intro P m i hi h2
  rw [ux_settle_2, hs, hr]
  refine br_f (nI_ge (b := 1000000) (by omega) (by decide)) (br_t rfl (br_f (ne_m1 (by omega)) (xg_topOf hg d0 hd ⟨vp_in_nI (by omega) (by decide), ?_⟩)))
  rw [nI_clamp (by omega), hm]
  exact br_t rfl (hq _ (br_f (by decide) (nm_r (nI_1 _) h2)))
theorem mv_lv {u u' : SX} {g d : Nat} (h : xr_ok u g d) (hm : ¬ xa_mode u (4 * g + d - 1) = 0) (hq : ∀ Q : SX → Prop, Q u' → wpX_leave Q u (nI (4 * g + d - 1))) : mv 1 u u' := by
  obtain ⟨hs, hr, hg, d0, d4, hd⟩ := h
  intro P m i hi h2
  rw [ux_settle_2, hs, hr]
  refine br_f (nI_ge (b := 1000000) (by omega) (by decide)) (br_t rfl (br_f (ne_m1 (by omega)) (xg_topOf hg d0 hd ⟨vp_in_nI (by omega) (by decide), ?_⟩)))
  rw [nI_clamp (by omega)]
  exact br_f hm (hq _ (nm_r (nI_1 _) h2))
theorem mv_nx {u u' : SX} (hs : xa_state u = 1) (hr : xa_running u = -1) (hq : ∀ Q : SX → Prop, Q u' → wpX_runNext Q u) : mv 1 u u' := by
  intro P m i hi h2
  rw [ux_settle_2, hs, hr]
  exact br_f (nI_ge (b := 1000000) (by omega) (by decide)) (br_t rfl (br_t rfl (hq _ (nm_r (nI_1 _) h2))))
theorem mv_st {P : SX → Prop} {u : SX} {m i : Nat} (hi : i < 1000000) (hs : ¬ xa_state u = 1) (h : P u) : cx_settle_2 P (m + 1) (nI i) u := by
  rw [ux_settle_2]
  exact br_f (nI_ge (b := 1000000) (by omega) (by decide)) (br_f hs h)
theorem xmo_0 {Q : Int32 → SX → Prop} {u : SX} {n t j : Nat} (T : sx_st u n) (ht : t < 48) (hp : xa_position u t = nI j) (hj : j < n) (hk : ¬ st_mk (xa_kinds u j)) (h : Q 0 u) : wpX_movedOn Q u (nI t) := by
  have n60 := T.2.1.1
  have cj : (nI j).toNatClampNeg = j := nI_clamp (by omega)
  have vj : vp_in (nI j) 60 := vp_in_nI (by omega) (by decide)
  rw [ux_movedOn, nI_clamp (show t < 2 ^ 31 by omega)]
  refine ⟨vp_in_nI ht (by decide), nm_r hp ?_⟩
  rw [cj]
  exact ⟨vj, br_f (fun z => hk (Or.inr (Or.inl z))) ⟨vj, xk_sec (fun z => absurd (Or.inr (Or.inr z)) hk) (fun _ => br_t rfl ⟨vj, br_f (fun z => hk (Or.inl z)) h⟩)⟩⟩
theorem mv_re {P : SX → Prop} {u : SX} {n g d j m i : Nat} (hi : i < 1000000) (hx : xr_ok u g d) (T : sx_st u n) (hm : xa_mode u (4 * g + d - 1) = 0) (hp : xa_position u (4 * g + d - 1) = nI j) (hj : j < n) (hk : ¬ st_mk (xa_kinds u j)) (h : P u) : cx_settle_2 P (m + 1) (nI i) u := by
  obtain ⟨hs, hr, hg, d0, d4, hd⟩ := hx
  rw [ux_settle_2, hs, hr]
  refine br_f (nI_ge (b := 1000000) (by omega) (by decide)) (br_t rfl (br_f (ne_m1 (by omega)) (xg_topOf hg d0 hd ⟨vp_in_nI (by omega) (by decide), ?_⟩)))
  rw [nI_clamp (by omega), hm]
  exact br_t rfl (xmo_0 T (by omega) hp hj hk (br_t rfl h))
def xp_at (u : SX) (t j : Nat) : SX := xs_position u (upd (xa_position u) t (nI j))
theorem uu {f : Nat → Int32} {t : Nat} {a b : Int32} : upd (upd f t a) t b = upd f t b := by
  funext i
  by_cases e : i = t
  · subst e; rw [pk_us, pk_us]
  · rw [pk_un e, pk_un e, pk_un e]
theorem u_id {f : Nat → Int32} {t : Nat} {a : Int32} (h : f t = a) : upd f t a = f := by
  funext i
  by_cases e : i = t
  · subst e; rw [pk_us, h]
  · rw [pk_un e]
theorem xp_xp {u : SX} {a b : Nat → Int32} : xs_position (xs_position u a) b = xs_position u b := Eq.trans (b := (xb_lineCount u, xb_functionCount u, xb_foundLine u, xb_state u, xb_time u, xb_endingPanic u, xb_outputCount u, xb_channelCount u, xb_goroutineCount u, xb_waitsBegun u, xb_running u, xb_queueLength u, xb_kinds u, xb_argA u, xb_argB u, xb_argC u, xb_blockOf u, xb_endOf u, xb_elseOf u, xb_functionLine u, xb_surelySet u, xb_outputs u, xb_capacity u, xb_fill u, xb_closed u, xb_held u, xb_status u, xb_depth u, xb_waitOrder u, xb_waitUntil u, xb_queue u, xb_slotWish u, xb_slotLine u, b, xb_mode u, xb_panicOf u, xb_noteCount u, xb_noteFunction u, xb_noteValues u, xb_variables u)) rfl rfl
theorem xp_id {u : SX} : xs_position u (xa_position u) = u := rfl
theorem xp_aa {u : SX} {t a b : Nat} : xp_at (xp_at u t a) t b = xp_at u t b := by
  show xs_position (xs_position u (upd (xa_position u) t (nI a))) (upd (upd (xa_position u) t (nI a)) t (nI b)) = xs_position u (upd (xa_position u) t (nI b))
  rw [uu, xp_xp]
theorem xp_ai {u : SX} {t a : Nat} (h : xa_position u t = nI a) : xp_at u t a = u := by
  show xs_position u (upd (xa_position u) t (nI a)) = u
  rw [u_id h, xp_id]
theorem xmo_s {Q : Int32 → SX → Prop} {u : SX} {n t j o : Nat} {r : List Nat} (T : sx_st u n) (ht : t < 48) (hp : xa_position u t = nI j) (hj : j < n) (hk : xa_kinds u j = 3 ∨ st_sec (xa_kinds u j)) (e : st_s (xa_kinds u) j = o :: r) (h : Q 1 (xp_at u t (st_e (xa_kinds u) o n))) : wpX_movedOn Q u (nI t) := by
  have n60 := T.2.1.1
  have cj : (nI j).toNatClampNeg = j := nI_clamp (by omega)
  have vj : vp_in (nI j) 60 := vp_in_nI (by omega) (by decide)
  have oj := st_lt (K := xa_kinds u) (i := j) (b := o) (by rw [e]; exact List.mem_cons_self)
  have bo : xa_blockOf u j = nI o := by rw [T.2.2.2.2.1.1 j hj, e]; rfl
  have eo := (sx_end T (by omega) oj.2).1
  have go : cx_movedOn_30 Q (nI t) (nI j) u := by
    rw [ux_movedOn_30, cj, bo, nI_clamp (show o < 2 ^ 31 by omega), eo, nI_clamp (show t < 2 ^ 31 by omega)]
    exact ⟨vj, vp_in_nI (by omega) (by decide), vp_in_nI ht (by decide), nm_e h⟩
  rw [ux_movedOn, nI_clamp (show t < 2 ^ 31 by omega)]
  refine ⟨vp_in_nI ht (by decide), nm_r hp ?_⟩
  rw [cj]
  refine ⟨vj, ?_⟩
  rcases hk with hk | hk
  · exact br_t hk go
  · exact br_f (by rcases hk with k | k | k | k <;> (rw [k]; decide)) ⟨vj, xk_sec (fun _ => br_f (by decide) go) (fun z => absurd hk z)⟩
theorem xmo_e {Q : Int32 → SX → Prop} {u : SX} {n t j o : Nat} {r : List Nat} (T : sx_st u n) (ht : t < 48) (hp : xa_position u t = nI j) (hj : j < n) (hk : xa_kinds u j = 1) (e : st_s (xa_kinds u) j = o :: r)
    (h0 : xa_kinds u o = 0 → Q 1 (xs_mode u (upd (xa_mode u) t 1))) (h4 : xa_kinds u o = 4 → Q 1 (xp_at u t o)) (h : ¬ xa_kinds u o = 0 → ¬ xa_kinds u o = 4 → Q 1 (xp_at u t (j + 1))) : wpX_movedOn Q u (nI t) := by
  have n60 := T.2.1.1
  have cj : (nI j).toNatClampNeg = j := nI_clamp (by omega)
  have vj : vp_in (nI j) 60 := vp_in_nI (by omega) (by decide)
  have oj := st_lt (K := xa_kinds u) (i := j) (b := o) (by rw [e]; exact List.mem_cons_self)
  have bo : xa_blockOf u j = nI o := by rw [T.2.2.2.2.1.1 j hj, e]; rfl
  have co : (nI o).toNatClampNeg = o := nI_clamp (by omega)
  have vo : vp_in (nI o) 60 := vp_in_nI (by omega) (by decide)
  have vt : vp_in (nI t) 48 := vp_in_nI ht (by decide)
  rw [ux_movedOn, nI_clamp (show t < 2 ^ 31 by omega)]
  refine ⟨vt, nm_r hp ?_⟩
  rw [cj]
  refine ⟨vj, br_f (by rw [hk]; decide) ⟨vj, xk_sec (fun z => absurd z (by rw [hk]; decide)) (fun _ => br_t rfl ⟨vj, br_t hk ⟨vj, nm_r bo ?_⟩⟩)⟩⟩
  rw [co]
  exact ⟨vo, br_c (fun z => ⟨vt, nm_e (h0 z)⟩) (fun z => ⟨vo, br_c (fun y => ⟨vt, nm_e (h4 y)⟩) (fun y => ⟨vt, nm_r (by rw [nI_1]) (h z y)⟩)⟩)⟩
theorem sx_at {u : SX} {n t j : Nat} (T : sx_st u n) : sx_st (xp_at u t j) n := sx_fr ⟨rfl, rfl, rfl, rfl, rfl, rfl, rfl, rfl, rfl, rfl⟩ T
theorem xr_at {u : SX} {g d t j : Nat} (h : xr_ok u g d) : xr_ok (xp_at u t j) g d := h
theorem xm_go {u : SX} {n g d : Nat} (T : sx_st u n) (hx : xr_ok u g d) (hm : xa_mode u (4 * g + d - 1) = 0) : ∀ f j, j < n → n - j ≤ f → ∃ k, k ≤ 2 * f ∧ mv k (xp_at u (4 * g + d - 1) j) (xp_at u (4 * g + d - 1) (st_ch (xa_kinds u) n j)) := by
  obtain ⟨hs, hr, hg, d0, d4, hd⟩ := id hx
  have ht : 4 * g + d - 1 < 48 := by omega
  have W := T.2.1
  have F := W.2.2.1
  have Z := W.2.1
  intro f
  induction f with
  | zero => intro j hj h; omega
  | succ f ih =>
    intro j hj h
    by_cases hk : st_mk (xa_kinds u j)
    · obtain ⟨o, r, e, ho, hop, _⟩ := st_mkhd F hj hk
      by_cases k0 : xa_kinds u o = 0
      · rw [st_ch_0 hj hk e k0]
        exact ⟨0, by omega, mv_0⟩
      · have pos : ∀ x, xa_position (xp_at u (4 * g + d - 1) x) (4 * g + d - 1) = nI x := fun x => (pk_us : upd (xa_position u) (4 * g + d - 1) (nI x) (4 * g + d - 1) = nI x)
        have nxt : ∀ x, x < n → xa_kinds u x = 1 → st_s (xa_kinds u) x = o :: r → ¬ xa_kinds u o = 4 → x + 1 < n → n - (x + 1) ≤ f → ∃ k, k ≤ 2 * f + 1 ∧ mv k (xp_at u (4 * g + d - 1) x) (xp_at u (4 * g + d - 1) (st_ch (xa_kinds u) n (x + 1))) := by
          intro x hx1 kx ex k4 hx2 hx3
          obtain ⟨k, hk1, hk2⟩ := ih (x + 1) hx2 hx3
          refine ⟨1 + k, by omega, mv_t (mv_on (xr_at hx) hm (fun Q q => xmo_e (sx_at T) ht (pos x) hx1 kx ex (fun z => absurd z k0) (fun z => absurd z k4) (fun _ _ => ?_))) hk2⟩
          rw [xp_aa]; exact q
        by_cases k1 : xa_kinds u j = 1
        · by_cases k4 : xa_kinds u o = 4
          · rw [st_ch_4 hj hk e k4]
            refine ⟨1, by omega, mv_on (xr_at hx) hm (fun Q q => xmo_e (sx_at T) ht (pos j) hj k1 e (fun z => absurd z k0) (fun _ => ?_) (fun _ z => absurd k4 z))⟩
            rw [xp_aa]; exact q
          · rw [st_ch_s F Z hj hk e k0 k4, st_e_eq F hj k1 e]
            obtain ⟨a, b, c⟩ := st_next F Z hj (l := []) e k0
            rw [st_e_eq F hj k1 e] at b
            obtain ⟨k, hk1, hk2⟩ := nxt j hj k1 e k4 b (by omega)
            exact ⟨k, by omega, hk2⟩
        · have ks : xa_kinds u j = 3 ∨ st_sec (xa_kinds u j) := by
            rcases hk with z | z | z
            · exact absurd z k1
            · exact Or.inl z
            · exact Or.inr z
          have k4 : ¬ xa_kinds u o = 4 := by
            rcases ks with z | z
            · obtain ⟨o', r', e', k'⟩ := W.2.2.2.1 j hj z
              rw [e] at e'; injection e' with q1 q2
              rw [q1, k']; decide
            · obtain ⟨o', r', e', k'⟩ := W.2.2.2.2.1 j hj z
              rw [e] at e'; injection e' with q1 q2
              rw [q1, k']; decide
          rw [st_ch_s F Z hj hk e k0 k4]
          obtain ⟨a, b, c⟩ := st_next F Z hj (l := []) e k0
          obtain ⟨p1, p2, p3, p4⟩ := st_e_of F Z (l := []) (Nat.le_of_lt hj) e
          obtain ⟨k, hk1, hk2⟩ := nxt _ p2 p3 p4 k4 b (by omega)
          refine ⟨1 + k, by omega, mv_t (mv_on (xr_at hx) hm (fun Q q => xmo_s (sx_at T) ht (pos j) hj ks e ?_)) hk2⟩
          rw [xp_aa]; exact q
    · rw [st_ch_n hj hk]
      exact ⟨0, by omega, mv_0⟩
