/-! a waiting goroutine is made ready -/
theorem nd_le : ∀ (n : Nat) (L : List Nat), L.Nodup → (∀ x, x ∈ L → x < n) → L.length ≤ n := by
  intro n
  induction n with
  | zero =>
    intro L _ h
    cases L with
    | nil => exact Nat.le_refl _
    | cons a t => exact absurd (h a List.mem_cons_self) (by omega)
  | succ n ih =>
    intro L d h
    by_cases m : n ∈ L
    · have := ih (L.erase n) (d.erase n) (fun x hx => by
        have h1 := (List.Nodup.mem_erase_iff d).mp hx
        have h2 := h x h1.2
        have h3 := h1.1
        omega)
      rw [List.length_erase_of_mem m] at this
      omega
    · exact Nat.le_succ_of_le (ih L d (fun x hx => by
        have h2 := h x hx
        have h3 : x ≠ n := fun e => m (e ▸ hx)
        omega))
theorem que_len {u : SX} {v : SY} {S g : Nat} {r : Option Nat} (H : rl_que u v S r) (hS : S ≤ 12) (hg : g < S) (hn : ¬ (ya_status v g = 1 ∧ ¬ some g = r)) : ∃ L, L < 12 ∧ xa_queueLength u = nI L := by
  obtain ⟨Q, q1, q2, q3, q4⟩ := H
  have m : ¬ g ∈ Q := fun z => hn ((q4 g).mp z).2
  have := nd_le 12 (g :: Q) (List.nodup_cons.mpr ⟨m, q1⟩) (fun x hx => by
    rcases List.mem_cons.mp hx with e | e
    · omega
    · have := ((q4 x).mp e).1; omega)
  rw [List.length_cons] at this
  exact ⟨Q.length, by omega, q2⟩
theorem que_add {u u' : SX} {v v' : SY} {S g L : Nat} {r r' : Option Nat} (H : rl_que u v S r) (hS : S ≤ 12) (hg : g < S) (hn : ¬ (ya_status v g = 1 ∧ ¬ some g = r)) (eL : xa_queueLength u = nI L) (L12 : L < 12)
    (e1 : xa_queueLength u' = nI (L + 1)) (e2 : xa_queue u' = upd (xa_queue u) L (nI g)) (e3 : ya_queue v' = upd (ya_queue v) L (nI g)) (e4 : ya_status v' g = 1 ∧ ¬ some g = r') (e5 : ∀ q, ¬ q = g → q < S → ((ya_status v' q = 1 ∧ ¬ some q = r') ↔ (ya_status v q = 1 ∧ ¬ some q = r))) : rl_que u' v' S r' := by
  obtain ⟨Q, q1, q2, q3, q4⟩ := H
  have m : ¬ g ∈ Q := fun z => hn ((q4 g).mp z).2
  have lb : Q.length < 2 ^ 31 := Nat.lt_of_le_of_lt (nd_le S Q q1 (fun x hx => ((q4 x).mp hx).1)) (by omega)
  have lL : Q.length = L := (nI_eq lb (by omega)).mp (q2.symm.trans eL)
  subst lL
  refine ⟨Q ++ [g], ?_, by rw [List.length_append]; exact e1, fun i hi => ?_, fun q => ?_⟩
  · refine List.nodup_append.mpr ⟨q1, by simp, fun a ha b hb => ?_⟩
    have : b = g := by simpa using hb
    subst this
    exact fun z => m (z ▸ ha)
  · rw [List.length_append] at hi
    rw [e2, e3]
    by_cases c : i = Q.length
    · subst c
      rw [pk_us, pk_us]
      have : (Q ++ [g]).getD Q.length 0 = g := by simp [List.getD]
      rw [this]
      exact ⟨rfl, rfl⟩
    · have il : i < Q.length := by have := hi; simp at this; omega
      rw [pk_un c, pk_un c]
      have : (Q ++ [g]).getD i 0 = Q.getD i 0 := by simp [List.getD, List.getElem?_append_left il]
      rw [this]
      exact q3 i il
  · rw [List.mem_append, q4 q]
    by_cases c : q = g
    · subst c
      exact ⟨fun _ => ⟨hg, e4⟩, fun _ => Or.inr (List.mem_singleton.mpr rfl)⟩
    · constructor
      · rintro (z | z)
        · exact ⟨z.1, (e5 q c z.1).mpr z.2⟩
        · exact absurd (List.mem_singleton.mp z) c
      · intro z
        exact Or.inl ⟨z.1, (e5 q c z.1).mp z.2⟩
theorem rl_me_fr {u u' : SX} {v v' : SY} {n g d : Nat} (f : fr_sx u u') (x : fr_gx u u' g) (y : fr_gy v v' g) (M : rl_me u v n g d) : rl_me u' v' n g d := by
  obtain ⟨x1, x2, x3, x4, x5, x6, x7, x8, x9, x10, x11⟩ := x
  obtain ⟨y1, y2, y3, y4, y5, y6, y7, y8, y9, y10, y11⟩ := y
  obtain ⟨m1, m2, m3, m4, m5, m6, m7, m8, m9, m10, m11⟩ := M
  exact ⟨m1, m2, x2.trans m3, y2.trans m4, rl_low_fr f.2.1 m2 x6 x7 y7 y8 y9 m5, rl_nts_fr f.2.2.2.2.2.1 m2 x8 x9 x10 y10 y11 m6, x1.trans m7, y1.trans m8, y3.trans m9, y4.trans m10, rl_nw_fr x3 x4 m11⟩
/-- one goroutine that is not the running one changes -/
theorem co_one {W : Nat} {r : Option Nat} {u u' : SX} {v v' : SY} {n S g : Nat} (H : rl_co W r u v n S) (hg : g < S) (f : fr_sx u u') (B : rl_base u' v') (C : rl_chn u' v') (Q : rl_que u' v' S r) (e1 : xa_goroutineCount u' = xb_goroutineCount u) (e2 : xa_waitsBegun u' = xb_waitsBegun u) (e3 : xa_time u' = xb_time u) (x : ∀ g', ¬ g' = g → fr_gx u u' g') (y : ∀ g', ¬ g' = g → fr_gy v v' g') (G : rl_go W u' v' n g) : rl_co W r u' v' n S := by
  obtain ⟨b1, b2, b3, b4, b5, b6, b7, b8, ⟨w, s, t1, t2, t3, t4⟩, b10⟩ := H
  refine ⟨B, sx_fr f b2, b3, b4, e1.trans b5, fun q h1 h2 => ?_, C, Q, ⟨w, s, t1, e2.trans t2, t3, e3.trans t4⟩, fun q h1 h2 => ?_⟩
  · obtain ⟨y1, y2, y3, y4, _⟩ := y q (by omega)
    rw [y1, y2, y3, y4]
    exact b6 q h1 h2
  · by_cases e : q = g
    · subst e; exact G
    · exact rl_go_fr f b2.2.2.2.1 (x q e) (y q e) (b10 q h1 h2)
def xw_s (u : SX) (g t : Nat) (p st : Int32) (L : Nat) : SX := xs_queue (xs_queueLength (xs_slotWish (xs_waitUntil (xs_position (xs_status u (upd (xa_status u) g st)) (upd (xa_position u) t p)) (vp_updL (xa_waitUntil u) g (-1))) (rl_fw (xa_slotWish u) g)) (nI (L + 1))) (upd (xa_queue u) L (nI g))
theorem xw_p {post : SX → Prop} {u : SX} {g d f L : Nat} {st : Int32} (hg : g < 12) (d0 : 0 < d) (d4 : d ≤ 4) (hd : xa_depth u g = nI d) (hL : xa_queueLength u = nI L) (L12 : L < 12) (h : post (xw_s u g (4 * g + d - 1) (nI (f + 1)) st L)) : wpX_stopWaiting post u (nI g) (nI f) st := by
  have cg : (nI g).toNatClampNeg = g := nI_clamp (by omega)
  rw [ux_stopWaiting]
  refine xg_topOf hg d0 hd ?_
  rw [nI_1, cg, nI_clamp (show 4 * g + d - 1 < 2 ^ 31 by omega)]
  refine ⟨vp_in_nI (by omega) (by decide), nm_e ⟨vp_in_nI hg (by decide), nm_e (xf_forget (u := xs_position (xs_status u (upd (xa_status u) g st)) (upd (xa_position u) (4 * g + d - 1) (nI (f + 1)))) hg ?_)⟩⟩
  rw [ux_enqueue]
  have eL : xa_queueLength (xs_slotWish (xs_waitUntil (xs_position (xs_status u (upd (xa_status u) g st)) (upd (xa_position u) (4 * g + d - 1) (nI (f + 1)))) (vp_updL (xa_waitUntil u) g (-1))) (rl_fw (xa_slotWish u) g)) = nI L := hL
  show vp_in (xa_queueLength (xs_slotWish (xs_waitUntil (xs_position (xs_status u (upd (xa_status u) g st)) (upd (xa_position u) (4 * g + d - 1) (nI (f + 1)))) (vp_updL (xa_waitUntil u) g (-1))) (rl_fw (xa_slotWish u) g))) 12 ∧ ∀ a, a = upd (xa_queue u) (xa_queueLength (xs_slotWish (xs_waitUntil (xs_position (xs_status u (upd (xa_status u) g st)) (upd (xa_position u) (4 * g + d - 1) (nI (f + 1)))) (vp_updL (xa_waitUntil u) g (-1))) (rl_fw (xa_slotWish u) g))).toNatClampNeg (nI g) → ∀ b, b = xa_queueLength (xs_slotWish (xs_waitUntil (xs_position (xs_status u (upd (xa_status u) g st)) (upd (xa_position u) (4 * g + d - 1) (nI (f + 1)))) (vp_updL (xa_waitUntil u) g (-1))) (rl_fw (xa_slotWish u) g)) + 1 → post (xs_queue (xs_queueLength (xs_slotWish (xs_waitUntil (xs_position (xs_status u (upd (xa_status u) g st)) (upd (xa_position u) (4 * g + d - 1) (nI (f + 1)))) (vp_updL (xa_waitUntil u) g (-1))) (rl_fw (xa_slotWish u) g)) b) a)
  rw [eL, nI_clamp (show L < 2 ^ 31 by omega)]
  exact ⟨vp_in_nI L12 (by decide), nm_e (nm_r (nI_1 _) h)⟩
def yr_s (v : SY) (g L : Nat) : SY := ys_queue (ys_status (ys_queued v (nI (L + 1))) (upd (ya_status v) g 1)) (upd (ya_queue v) L (nI g))
theorem yr_p {post : SY → Prop} {v : SY} {g L : Nat} (hg : g < 12) (hL : ya_queued v = nI L) (L12 : L < 12) (h : post (yr_s v g L)) : wpY_ready post v (nI g) := by
  rw [uy_ready, hL, nI_clamp (show g < 2 ^ 31 by omega), nI_clamp (show L < 2 ^ 31 by omega), nb_64 g (by omega), nI_1]
  exact ⟨vp_in_nI hg (by decide), nm_r (show _ = upd (ya_status v) g 1 from rfl) (nm_e ⟨vp_in_nI L12 (by decide), nm_e h⟩)⟩
theorem yw_p {post : SY → Prop} {v : SY} {g f L : Nat} (hg : g < 12) (hf : f + 1 < 60) (hL : ya_queued v = nI L) (L12 : L < 12) (h : post (yr_s (ys_resume v (upd (ya_resume v) g (nI (f + 1)))) g L)) : wpY_wake post v (nI g) (nI f) := by
  rw [uy_wake, nI_clamp (show g < 2 ^ 31 by omega), nI_1, nb_64 (f + 1) (by omega)]
  exact ⟨vp_in_nI hg (by decide), nm_e (yr_p (v := ys_resume v (upd (ya_resume v) g (nI (f + 1)))) hg hL L12 h)⟩
theorem fr_fw {g g' : Nat} {a : Nat → Int32} (h : ¬ g' = g) : fr_e 3 g' a (rl_fw a g) := by
  intro i hi
  unfold rl_fw
  rw [if_neg (by omega)]
theorem fw_nw {u : SX} {g : Nat} (h1 : xa_waitUntil u g = -1) {a : Nat → Int32} (h2 : xa_slotWish u = rl_fw a g) : rl_nw u g := by
  refine ⟨h1, fun i hi => ?_⟩
  rw [h2]
  unfold rl_fw
  rw [if_pos (by omega)]
/-- a waiting goroutine's shape -/
theorem go_wait {W : Nat} {u : SX} {v : SY} {n g : Nat} (G : rl_go W u v n g) (h : xa_status u g = 2) : ∃ d, 0 < d ∧ d ≤ 4 ∧ xa_depth u g = nI d ∧ ya_depth v g = nI d ∧ rl_low u v n g d ∧ rl_nts u v g d ∧ xa_mode u (4 * g + d - 1) = 0 ∧ ya_panics v (4 * g + d - 1) = 0 ∧ ya_status v g = 2 ∧ ya_resume v g = -1 ∧ ya_shocked v g = 0 ∧ rl_wt W u v n g d := by
  obtain ⟨d, d4, e1, e2, H⟩ := G
  rcases H with ⟨h1, h2, h3, h4, h5, h6⟩ | ⟨h1, h2, h3, h4, h5, H⟩
  · rw [h] at h2; exact absurd h2 (by decide)
  · rcases H with ⟨k1, k2, k3, k4, k5⟩ | ⟨k1, k2, k3, k4, k5⟩ | ⟨k1, k2, k3, k4, p, k5, k6, k7⟩
    · exact ⟨d, h1, d4, e1, e2, h2, h3, h4, h5, k2, k3, k4, k5⟩
    · rw [h] at k1; exact absurd k1 (by decide)
    · rw [h] at k1; exact absurd k1 (by decide)
theorem co_wake {W : Nat} {r : Option Nat} {u : SX} {v : SY} {n S g j f L : Nat} {V : Nat → Int32} (H : rl_co W r u v n S) (hg : g < S) (hr : ¬ some g = r) (hs : xa_status u g = 2) (hd : xa_depth u g = nI (j + 1)) (j4 : j < 4) (hL : xa_queueLength u = nI L) (L12 : L < 12) (hf : f + 1 < n) (hV : ∀ g', ¬ g' = g → fr_e 24 g' (xa_variables u) V) :
    rl_co W r (xw_s (xs_variables u V) g (4 * g + j) (nI (f + 1)) 0 L) (yr_s (ys_resume (ys_vars v V) (upd (ya_resume v) g (nI (f + 1)))) g L) n S := by
  obtain ⟨L0, B1, B2, B3, B4, B5, B6, B7, B8, B9, B10, B11, B12, B13, B14, B15, B16, B17, B18, B19, B20, B21, B22⟩ := bs_b H.1
  have G := H.2.2.2.2.2.2.2.2.2 g hg hr
  obtain ⟨d', g1, g2, g3, g4, g5, g6, g7, g8, g9, g10, g11, g12⟩ := go_wait G hs
  have dd : d' = j + 1 := (nI_eq (by omega) (by omega)).mp (g3.symm.trans hd)
  subst dd
  have st1 : ¬ (ya_status v g = 1 ∧ ¬ some g = r) := fun z => absurd (g9.symm.trans z.1) (by decide)
  refine co_one (u := u) (v := v) H hg ⟨rfl, rfl, rfl, rfl, rfl, rfl, rfl, rfl, rfl, rfl⟩ ⟨L0, B1, B2, B3, B4, B5, B6, B7, B8, B9, B10, B11, B12, B13, B14, B15, B16, rfl, rfl, B19, B20, B21, B22⟩ (chn_fr H.2.2.2.2.2.2.1 rfl rfl rfl rfl rfl rfl) (que_add H.2.2.2.2.2.2.2.1 H.2.2.1 hg st1 hL L12 rfl rfl rfl ⟨(pk_us : upd (ya_status v) g 1 g = 1), hr⟩ (fun q hq _ => ?_)) rfl rfl rfl
    (fun g1 h1 => ⟨(pk_un h1 : (upd (xa_status u) g 0) g1 = xa_status u g1), rfl, (pk_uLn h1 : (vp_updL (xa_waitUntil u) g (-1)) g1 = xa_waitUntil u g1), (fr_fw h1 : fr_e 3 g1 (xa_slotWish u) (rl_fw (xa_slotWish u) g)), fr_er, (fr_e4 h1 j4 : fr_e 4 g1 (xa_position u) (upd (xa_position u) (4 * g + j) (nI (f + 1)))), fr_er, fr_er, fr_er, fr_er, (hV g1 h1 : fr_e 24 g1 (xa_variables u) (V))⟩) (fun g1 h1 => ⟨(pk_un h1 : (upd (ya_status v) g 1) g1 = ya_status v g1), rfl, (pk_un h1 : (upd (ya_resume v) g (nI (f + 1))) g1 = ya_resume v g1), rfl, rfl, rfl, fr_er, fr_er, fr_er, fr_er, fr_er⟩) ?_
  · have : ya_status (yr_s (ys_resume (ys_vars v V) (upd (ya_resume v) g (nI (f + 1)))) g L) q = ya_status v q := (pk_un hq : upd (ya_status v) g 1 q = _)
    rw [this]
  · refine ⟨j + 1, g2, (hd : xb_depth u g = nI (j + 1)), (g4 : yb_depth v g = nI (j + 1)), Or.inr ⟨g1, me_low rfl g5 j4 (fun i hi => (pk_un (by omega) : upd (xa_position u) (4 * g + j) (nI (f + 1)) (4 * g + i) = xa_position u (4 * g + i))) (fun i hi => rfl) (fun i hi => rfl) (fun i hi => rfl) (fun i hi => rfl), rl_nts_fr rfl g2 fr_er fr_er fr_er fr_er fr_er g6, (g7 : xb_mode u (4 * g + j) = 0), (g8 : yb_panics v (4 * g + j) = 0), Or.inr (Or.inr ⟨(pk_us : upd (xa_status u) g 0 g = 0), (pk_us : upd (ya_status v) g 1 g = 1), (g11 : yb_shocked v g = 0), fw_nw (pk_uLs : vp_updL (xa_waitUntil u) g (-1) g = -1) rfl, f + 1, hf, ?_, Or.inl ?_⟩)⟩⟩
    · exact (pk_us : upd (xa_position u) (4 * g + j) (nI (f + 1)) (4 * g + j) = _)
    · exact (pk_us : upd (ya_resume v) g (nI (f + 1)) g = _)
theorem co_doom {W : Nat} {r : Option Nat} {u : SX} {v : SY} {n S g j f L : Nat} (H : rl_co W r u v n S) (hg : g < S) (hr : ¬ some g = r) (hs : xa_status u g = 2) (hd : xa_depth u g = nI (j + 1)) (j4 : j < 4) (hL : xa_queueLength u = nI L) (L12 : L < 12) :
    rl_co W r (xw_s u g (4 * g + j) (nI (f + 1)) 1 L) (yr_s (ys_shocked v (upd (ya_shocked v) g 1)) g L) n S := by
  obtain ⟨L0, B1, B2, B3, B4, B5, B6, B7, B8, B9, B10, B11, B12, B13, B14, B15, B16, B17, B18, B19, B20, B21, B22⟩ := bs_b H.1
  have G := H.2.2.2.2.2.2.2.2.2 g hg hr
  obtain ⟨d', g1, g2, g3, g4, g5, g6, g7, g8, g9, g10, g11, g12⟩ := go_wait G hs
  have dd : d' = j + 1 := (nI_eq (by omega) (by omega)).mp (g3.symm.trans hd)
  subst dd
  have st1 : ¬ (ya_status v g = 1 ∧ ¬ some g = r) := fun z => absurd (g9.symm.trans z.1) (by decide)
  refine co_one (u := u) (v := v) H hg ⟨rfl, rfl, rfl, rfl, rfl, rfl, rfl, rfl, rfl, rfl⟩ ⟨L0, B1, B2, B3, B4, B5, B6, B7, B8, B9, B10, B11, B12, B13, B14, B15, B16, rfl, B18, B19, B20, B21, B22⟩ (chn_fr H.2.2.2.2.2.2.1 rfl rfl rfl rfl rfl rfl) (que_add H.2.2.2.2.2.2.2.1 H.2.2.1 hg st1 hL L12 rfl rfl rfl ⟨(pk_us : upd (ya_status v) g 1 g = 1), hr⟩ (fun q hq _ => ?_)) rfl rfl rfl
    (fun g1 h1 => ⟨(pk_un h1 : (upd (xa_status u) g 1) g1 = xa_status u g1), rfl, (pk_uLn h1 : (vp_updL (xa_waitUntil u) g (-1)) g1 = xa_waitUntil u g1), (fr_fw h1 : fr_e 3 g1 (xa_slotWish u) (rl_fw (xa_slotWish u) g)), fr_er, (fr_e4 h1 j4 : fr_e 4 g1 (xa_position u) (upd (xa_position u) (4 * g + j) (nI (f + 1)))), fr_er, fr_er, fr_er, fr_er, fr_er⟩) (fun g1 h1 => ⟨(pk_un h1 : (upd (ya_status v) g 1) g1 = ya_status v g1), rfl, rfl, (pk_un h1 : (upd (ya_shocked v) g 1) g1 = ya_shocked v g1), rfl, rfl, fr_er, fr_er, fr_er, fr_er, fr_er⟩) ?_
  · have : ya_status (yr_s (ys_shocked v (upd (ya_shocked v) g 1)) g L) q = ya_status v q := (pk_un hq : upd (ya_status v) g 1 q = _)
    rw [this]
  · refine ⟨j + 1, g2, (hd : xb_depth u g = nI (j + 1)), (g4 : yb_depth v g = nI (j + 1)), Or.inr ⟨g1, me_low rfl g5 j4 (fun i hi => (pk_un (by omega) : upd (xa_position u) (4 * g + j) (nI (f + 1)) (4 * g + i) = xa_position u (4 * g + i))) (fun i hi => rfl) (fun i hi => rfl) (fun i hi => rfl) (fun i hi => rfl), rl_nts_fr rfl g2 fr_er fr_er fr_er fr_er fr_er g6, (g7 : xb_mode u (4 * g + j) = 0), (g8 : yb_panics v (4 * g + j) = 0), Or.inr (Or.inl ⟨(pk_us : upd (xa_status u) g 1 g = 1), (pk_us : upd (ya_status v) g 1 g = 1), (g10 : yb_resume v g = -1), (pk_us : upd (ya_shocked v) g 1 g = 1), fw_nw (pk_uLs : vp_updL (xa_waitUntil u) g (-1) g = -1) rfl⟩)⟩⟩
