/-! sending -/
theorem mid_wake {W : Nat} {u : SX} {v : SY} {n S g d b j f L : Nat} {V : Nat → Int32} (H : rl_mid W u v n S g d) (hb : b < S) (hr : ¬ some b = some g) (hs : xa_status u b = 2) (hd : xa_depth u b = nI (j + 1)) (j4 : j < 4) (hL : xa_queueLength u = nI L) (L12 : L < 12) (hf : f + 1 < n) (hV : ∀ g', ¬ g' = b → fr_e 24 g' (xa_variables u) V) :
    rl_mid W (xw_s (xs_variables u V) b (4 * b + j) (nI (f + 1)) 0 L) (yr_s (ys_resume (ys_vars v V) (upd (ya_resume v) b (nI (f + 1)))) b L) n S g d := by
  have h1 : ¬ g = b := fun z => hr (by rw [z])
  have fx : fr_gx u (xw_s (xs_variables u V) b (4 * b + j) (nI (f + 1)) 0 L) g := ⟨(pk_un h1 : upd (xa_status u) b 0 g = xa_status u g), rfl, (pk_uLn h1 : vp_updL (xa_waitUntil u) b (-1) g = xa_waitUntil u g), (fr_fw h1 : fr_e 3 g (xa_slotWish u) (rl_fw (xa_slotWish u) b)), fr_er, (fr_e4 h1 j4 : fr_e 4 g (xa_position u) (upd (xa_position u) (4 * b + j) (nI (f + 1)))), fr_er, fr_er, fr_er, fr_er, (hV g h1 : fr_e 24 g (xa_variables u) V)⟩
  have fy : fr_gy v (yr_s (ys_resume (ys_vars v V) (upd (ya_resume v) b (nI (f + 1)))) b L) g := ⟨(pk_un h1 : upd (ya_status v) b 1 g = ya_status v g), rfl, (pk_un h1 : upd (ya_resume v) b (nI (f + 1)) g = ya_resume v g), rfl, rfl, rfl, fr_er, fr_er, fr_er, fr_er, fr_er⟩
  exact ⟨co_wake H.1 hb hr hs hd j4 hL L12 hf hV, H.2.1, (H.2.2.1 : xb_running u = nI g), (H.2.2.2.1 : yb_now v = nI g), (H.2.2.2.2.1 : yb_off v = 0), rl_me_fr ⟨rfl, rfl, rfl, rfl, rfl, rfl, rfl, rfl, rfl, rfl⟩ fx fy H.2.2.2.2.2⟩
theorem mid_wk {W : Nat} {u : SX} {v : SY} {n S g d b j f L : Nat} (H : rl_mid W u v n S g d) (hb : b < S) (hr : ¬ some b = some g) (hs : xa_status u b = 2) (hd : xa_depth u b = nI (j + 1)) (j4 : j < 4) (hL : xa_queueLength u = nI L) (L12 : L < 12) (hf : f + 1 < n) :
    rl_mid W (xw_s u b (4 * b + j) (nI (f + 1)) 0 L) (yr_s (ys_resume v (upd (ya_resume v) b (nI (f + 1)))) b L) n S g d := by
  have B18 : ya_vars v = xa_variables u := H.1.1.2.2.2.2.2.2.2.2.2.2.2.2.2.2.2.2.2.2.1
  have key := mid_wake (V := xa_variables u) H hb hr hs hd j4 hL L12 hf (fun g1 h1 => fr_er)
  rw [xv_id, ← B18, yv_id] at key
  exact key
theorem mid_doom {W : Nat} {u : SX} {v : SY} {n S g d b j f L : Nat} (H : rl_mid W u v n S g d) (hb : b < S) (hr : ¬ some b = some g) (hs : xa_status u b = 2) (hd : xa_depth u b = nI (j + 1)) (j4 : j < 4) (hL : xa_queueLength u = nI L) (L12 : L < 12) :
    rl_mid W (xw_s u b (4 * b + j) (nI (f + 1)) 1 L) (yr_s (ys_shocked v (upd (ya_shocked v) b 1)) b L) n S g d := by
  have h1 : ¬ g = b := fun z => hr (by rw [z])
  have fx : fr_gx u (xw_s u b (4 * b + j) (nI (f + 1)) 1 L) g := ⟨(pk_un h1 : upd (xa_status u) b 1 g = xa_status u g), rfl, (pk_uLn h1 : vp_updL (xa_waitUntil u) b (-1) g = xa_waitUntil u g), (fr_fw h1 : fr_e 3 g (xa_slotWish u) (rl_fw (xa_slotWish u) b)), fr_er, (fr_e4 h1 j4 : fr_e 4 g (xa_position u) (upd (xa_position u) (4 * b + j) (nI (f + 1)))), fr_er, fr_er, fr_er, fr_er, fr_er⟩
  have fy : fr_gy v (yr_s (ys_shocked v (upd (ya_shocked v) b 1)) b L) g := ⟨(pk_un h1 : upd (ya_status v) b 1 g = ya_status v g), rfl, rfl, (pk_un h1 : upd (ya_shocked v) b 1 g = ya_shocked v g), rfl, rfl, fr_er, fr_er, fr_er, fr_er, fr_er⟩
  exact ⟨co_doom H.1 hb hr hs hd j4 hL L12, H.2.1, (H.2.2.1 : xb_running u = nI g), (H.2.2.2.1 : yb_now v = nI g), (H.2.2.2.2.1 : yb_off v = 0), rl_me_fr ⟨rfl, rfl, rfl, rfl, rfl, rfl, rfl, rfl, rfl, rfl⟩ fx fy H.2.2.2.2.2⟩
/-- a channel's values -/
theorem mid_chn {W : Nat} {u : SX} {v : SY} {n S g d : Nat} {F HH VV : Nat → Int32} (H : rl_mid W u v n S g d) (C : rl_chn (xs_held (xs_fill u F) HH) (ys_values (ys_held v F) VV)) : rl_mid W (xs_held (xs_fill u F) HH) (ys_values (ys_held v F) VV) n S g d := by
  obtain ⟨m1, m2, m3, m4, m5, m6, m7, m8, m9, m10, m11⟩ := me_b H.2.2.2.2.2
  obtain ⟨L0, B1, B2, B3, B4, B5, B6, B7, B8, B9, B10, B11, B12, B13, B14, B15, B16, B17, B18, B19, B20, B21, B22⟩ := bs_b H.1.1
  exact mid_loc H ⟨⟨rfl, rfl, rfl, rfl, rfl, rfl, rfl, rfl, rfl, rfl⟩, rfl, rfl, rfl, rfl, rfl, rfl, fun g1 h1 => ⟨rfl, rfl, rfl, fr_er, fr_er, fr_er, fr_er, fr_er, fr_er, fr_er, fr_er⟩⟩ ⟨rfl, rfl, rfl, fun g1 h1 => ⟨rfl, rfl, rfl, rfl, rfl, rfl, fr_er, fr_er, fr_er, fr_er, fr_er⟩⟩ ⟨L0, B1, B2, B3, B4, B5, B6, B7, B8, B9, B10, B11, B12, rfl, B14, B15, B16, B17, B18, B19, B20, B21, B22⟩ C ⟨m1, m2, m3, m4, (rl_low_fr rfl m2 fr_er fr_er fr_er fr_er fr_er m5), (rl_nts_fr rfl m2 fr_er fr_er fr_er fr_er fr_er m6), m7, m8, m9, m10, (rl_nw_fr rfl fr_er m11)⟩
theorem mid_cls {W : Nat} {u : SX} {v : SY} {n S g d e : Nat} (H : rl_mid W u v n S g d) : rl_mid W (xs_closed u (upd (xa_closed u) e 1)) (ys_closed v (upd (ya_closed v) e 1)) n S g d := by
  obtain ⟨m1, m2, m3, m4, m5, m6, m7, m8, m9, m10, m11⟩ := me_b H.2.2.2.2.2
  obtain ⟨L0, B1, B2, B3, B4, B5, B6, B7, B8, B9, B10, B11, B12, B13, B14, B15, B16, B17, B18, B19, B20, B21, B22⟩ := bs_b H.1.1
  obtain ⟨c, c8, ec, ch⟩ := H.1.2.2.2.2.2.2.1
  refine mid_loc H ⟨⟨rfl, rfl, rfl, rfl, rfl, rfl, rfl, rfl, rfl, rfl⟩, rfl, rfl, rfl, rfl, rfl, rfl, fun g1 h1 => ⟨rfl, rfl, rfl, fr_er, fr_er, fr_er, fr_er, fr_er, fr_er, fr_er, fr_er⟩⟩ ⟨rfl, rfl, rfl, fun g1 h1 => ⟨rfl, rfl, rfl, rfl, rfl, rfl, fr_er, fr_er, fr_er, fr_er, fr_er⟩⟩ ⟨L0, B1, B2, B3, B4, B5, B6, B7, B8, B9, B10, B11, B12, B13, (show upd (yb_closed v) e 1 = upd (xb_closed u) e 1 by rw [B14]), B15, B16, B17, B18, B19, B20, B21, B22⟩ ⟨c, c8, (ec : xb_channelCount u = nI c), fun i hi => ?_⟩ ⟨m1, m2, m3, m4, (rl_low_fr rfl m2 fr_er fr_er fr_er fr_er fr_er m5), (rl_nts_fr rfl m2 fr_er fr_er fr_er fr_er fr_er m6), m7, m8, m9, m10, (rl_nw_fr rfl fr_er m11)⟩
  obtain ⟨f, q, a1, a2, a3, a4, a5, a6⟩ := ch i hi
  refine ⟨f, q, a1, a2, (a3 : xb_fill u i = nI f), (a4 : xb_capacity u i = nI q), ?_, (a6 : ∀ j, j < f → xb_held u (3 * i + j) = yb_values v (3 * i + j))⟩
  by_cases z : i = e
  · subst z; exact Or.inr (pk_us : upd (xa_closed u) i 1 i = 1)
  · have : xa_closed (xs_closed u (upd (xa_closed u) e 1)) i = xa_closed u i := (pk_un z : upd (xa_closed u) e 1 i = _)
    rw [this]; exact a5
theorem ch_c {a : Int32} {k : Nat} (k8 : k ≤ 8) : a < 1 ∨ (¬ a < 1 ∧ nI k < a) ∨ ∃ e, e < k ∧ a = nI (e + 1) ∧ ¬ a < 1 ∧ ¬ nI k < a := by
  by_cases h1 : a < 1
  · exact Or.inl h1
  · by_cases h2 : nI k < a
    · exact Or.inr (Or.inl ⟨h1, h2⟩)
    · obtain ⟨c, c1, c2⟩ := rg_le (x := a) (N := k) (by omega) (fun z => h1 (Int32.lt_trans z (by decide))) h2
      subst c2
      have c0 : ¬ c = 0 := fun z => h1 (by rw [z]; decide)
      exact Or.inr (Or.inr ⟨c - 1, by omega, by rw [show c - 1 + 1 = c by omega], h1, h2⟩)
theorem xi_no {post : Int32 → Prop} {u : SX} {a : Int32} {k : Nat} (ek : xa_channelCount u = nI k) (h : a < 1 ∨ (¬ a < 1 ∧ nI k < a)) (p : post 0) : wpX_isChannel post u a := by
  rw [ux_isChannel, ek]
  rcases h with h | ⟨h1, h2⟩
  · exact br_t h p
  · exact br_f h1 (br_t h2 p)
theorem xi_yes {post : Int32 → Prop} {u : SX} {a : Int32} {k : Nat} (ek : xa_channelCount u = nI k) (h1 : ¬ a < 1) (h2 : ¬ nI k < a) (p : post 1) : wpX_isChannel post u a := by
  rw [ux_isChannel, ek]
  exact br_f h1 (br_f h2 p)
theorem yi_no {post : Int32 → Prop} {v : SY} {a : Int32} {k : Nat} (ek : ya_made v = nI k) (h : a < 1 ∨ (¬ a < 1 ∧ nI k < a)) (p : post 0) : wpY_channelAt post v a := by
  rw [uy_channelAt, ek]
  rcases h with h | ⟨h1, h2⟩
  · exact br_t h p
  · exact br_f h1 (br_t h2 p)
theorem yi_yes {post : Int32 → Prop} {v : SY} {a : Int32} {k : Nat} (ek : ya_made v = nI k) (h1 : ¬ a < 1) (h2 : ¬ nI k < a) (p : post 1) : wpY_channelAt post v a := by
  rw [uy_channelAt, ek]
  exact br_f h1 (br_f h2 p)
theorem iy33 {e f : Nat} : ((3 * nI (e + 1)) - 3) + nI f = nI (3 * e + f) := by
  rw [show (3 : Int32) = nI 3 from rfl, pk_mul, pk_sub (by omega), nI_add]; exact congrArg nI (by omega)
theorem xs_rec {post : SX → Prop} {u : SX} {b j l p q : Nat} {x f : Int32} (hb : b < 12) (j4 : j < 4) (hd : xa_depth u b = nI (j + 1)) (l60 : l < 60) (ea : xa_argA u l = nI p) (p6 : p < 6) (ec : xa_argC u l = nI q) (q6 : q < 6) (h : post (xs_variables u (upd (upd (xa_variables u) (6 * (4 * b + j) + p) x) (6 * (4 * b + j) + q) f))) : wpX_setReceived post u (nI b) (nI l) x f := by
  have vl : vp_in (nI l) 60 := vp_in_nI l60 (by decide)
  rw [ux_setReceived]
  refine xg_topOf (d := j + 1) hb (by omega) hd ?_
  rw [show 4 * b + (j + 1) - 1 = 4 * b + j from rfl, nI_clamp (show l < 2 ^ 31 by omega), ea, ec, ix6, ix6, nI_clamp (show 6 * (4 * b + j) + p < 2 ^ 31 by omega), nI_clamp (show 6 * (4 * b + j) + q < 2 ^ 31 by omega)]
  exact ⟨vl, vp_in_nI (by omega) (by decide), nm_e ⟨vl, vp_in_nI (by omega) (by decide), nm_e h⟩⟩
theorem yg_give {post : SY → Prop} {v : SY} {b j l p q : Nat} {x f : Int32} (hb : b < 12) (j4 : j < 4) (hd : ya_depth v b = nI (j + 1)) (l60 : l < 60) (ea : ya_opA v l = nI p) (p6 : p < 6) (ec : ya_opC v l = nI q) (q6 : q < 6) (h : post (ys_vars v (upd (upd (ya_vars v) (6 * (4 * b + j) + p) x) (6 * (4 * b + j) + q) f))) : wpY_give post v (nI b) (nI l) x f := by
  have vl : vp_in (nI l) 60 := vp_in_nI l60 (by decide)
  have cl : (nI l).toNatClampNeg = l := nI_clamp (by omega)
  rw [uy_give, cl, ea]
  refine ⟨vl, ys_set hb j4 hd p6 ⟨vl, ?_⟩⟩
  have ec' : ya_opC (ys_vars v (upd (ya_vars v) (6 * (4 * b + j) + p) x)) l = nI q := ec
  rw [ec']
  refine ys_set (v := ys_vars v (upd (ya_vars v) (6 * (4 * b + j) + p) x)) hb j4 hd q6 ?_
  rw [yv_yv]
  exact h
theorem V_fr {vars : Nat → Int32} {b j p q : Nat} {x f : Int32} (j4 : j < 4) (p6 : p < 6) (q6 : q < 6) : ∀ g', ¬ g' = b → fr_e 24 g' vars (upd (upd vars (6 * (4 * b + j) + p) x) (6 * (4 * b + j) + q) f) := by
  intro g' h
  rw [ix24, ix24]
  exact fr_et (fr_e24 h (by omega)) (fr_e24 h (by omega))
/-- the arguments of a line that receives -/
theorem ln_rc {u : SX} {n l : Nat} (T : sx_st u n) (hl : l < n) (k : xa_kinds u l = 8 ∨ xa_kinds u l = 11) : ∃ p q, p < 6 ∧ xa_argA u l = nI p ∧ q < 6 ∧ xa_argC u l = nI q := by
  have L := T.2.2.2.2.2.1 l hl
  obtain ⟨p, p6, ep⟩ := L.2.2.1 (by rcases k with z | z <;> (rw [z]; decide))
  obtain ⟨q, q6, eq⟩ := L.2.2.2.1 k
  exact ⟨p, q, p6, ep, q6, eq⟩
/-- what an attempt leaves as it was -/
def sr_ok (W : Nat) (u u' : SX) (v v' : SY) (n S g j : Nat) : Prop := rl_mid W u' v' n S g (j + 1) ∧ xa_state u' = xa_state u ∧ xa_mode u' (4 * g + j) = xa_mode u (4 * g + j) ∧ ya_panics v' (4 * g + j) = ya_panics v (4 * g + j) ∧ xa_kinds u' = xa_kinds u
theorem ts_all {W : Nat} {u : SX} {v : SY} {n S g j l : Nat} {a b : Int32} (H : rl_mid W u v n S g (j + 1)) (hl : l < n) (ea : rl_val (xa_variables u) (4 * g + j) (xa_argA u l) = a) (eb : rl_val (xa_variables u) (4 * g + j) (xa_argB u l) = b) :
    ((∀ P : Int32 → SX → Prop, P 1 u → wpX_trySend P u (nI (4 * g + j)) (nI l)) ∧ (∀ Q : Int32 → Prop, Q 0 → wpY_canSend Q v a)) ∨
    ((∀ P : Int32 → SX → Prop, P 2 u → wpX_trySend P u (nI (4 * g + j)) (nI l)) ∧ (∀ Q : Int32 → Prop, Q 1 → wpY_canSend Q v a) ∧ (∀ R : Int32 → SY → Prop, R 0 v → wpY_send R v a b)) ∨
    (∃ u' v', (∀ P : Int32 → SX → Prop, P 0 u' → wpX_trySend P u (nI (4 * g + j)) (nI l)) ∧ (∀ Q : Int32 → Prop, Q 1 → wpY_canSend Q v a) ∧ (∀ R : Int32 → SY → Prop, R 1 v' → wpY_send R v a b) ∧ sr_ok W u u' v v' n S g j) := by
  have T := H.1.2.1
  have n60 := T.2.1.1
  obtain ⟨L0, B1, B2, B3, B4, B5, B6, B7, B8, B9, B10, B11, B12, B13, B14, B15, B16, B17, B18, B19, B20, B21, B22⟩ := id H.1.1
  obtain ⟨k, k8, ek, ch⟩ := id H.1.2.2.2.2.2.2.1
  have ekY : ya_made v = nI k := B11.trans ek
  have ht := (mid_t H).1
  have hg := (mid_t H).2
  have j4 : j < 4 := by have := H.2.2.2.2.2.2.1; omega
  have Hr := mid_rn H
  have hS := H.1.2.2.1
  have vl : vp_in (nI l) 60 := vp_in_nI (by omega) (by decide)
  have cl : (nI l).toNatClampNeg = l := nI_clamp (by omega)
  have pre : ∀ P : Int32 → SX → Prop, wpX_isChannel (fun r_85 => (((r_85 = 0 → (P 1 u)) ∧ (¬ r_85 = 0 → (vp_in (a - 1) 8 ∧ (((((xa_closed u) (a - 1).toNatClampNeg) = 0 → (wpX_longestWaiting (fun r_129 => (((r_129 = (-1) → (vp_in (a - 1) 8 ∧ (vp_in (a - 1) 8 ∧ (((((xa_capacity u) (a - 1).toNatClampNeg) ≤ ((xa_fill u) (a - 1).toNatClampNeg) → (P 1 u)) ∧ (¬ ((xa_capacity u) (a - 1).toNatClampNeg) ≤ ((xa_fill u) (a - 1).toNatClampNeg) → (wpX_addValue (fun u175 => (P 0 u175)) u a b))))))) ∧ (¬ r_129 = (-1) → (¬ (3 : Int32) = 0 ∧ (∀ x6_216, x6_216 = r_129 / 3 → (vp_in r_129 36 ∧ (wpX_setReceived (fun u219 => (vp_in r_129 36 ∧ (wpX_stopWaiting (fun u261 => (P 0 u261)) u219 x6_216 ((xa_slotLine u219) r_129.toNatClampNeg) 0))) u x6_216 ((xa_slotLine u) r_129.toNatClampNeg) b 1)))))))) u a)) ∧ (¬ ((xa_closed u) (a - 1).toNatClampNeg) = 0 → (P 2 u))))))))) u a → wpX_trySend P u (nI (4 * g + j)) (nI l) := by
    intro P h
    rw [ux_trySend, cl]
    refine ⟨vl, xv_val ht ⟨vl, xv_val ht ?_⟩⟩
    rw [ea, eb]
    exact h
  rcases ch_c (a := a) k8 with c | c | ⟨e, ek', c, h1, h2⟩
  · refine Or.inl ⟨fun P p => pre P (xi_no ek (Or.inl c) (br_t rfl p)), fun Q q => ?_⟩
    rw [uy_canSend]; exact yi_no ekY (Or.inl c) (br_t rfl q)
  · refine Or.inl ⟨fun P p => pre P (xi_no ek (Or.inr c) (br_t rfl p)), fun Q q => ?_⟩
    rw [uy_canSend]; exact yi_no ekY (Or.inr c) (br_t rfl q)
  · subst c
    obtain ⟨f, cp, a1, a2, a3, a4, a5, a6⟩ := ch e ek'
    have e8 : e < 8 := by omega
    have ve : vp_in (nI e) 8 := vp_in_nI e8 (by decide)
    have ce : (nI e).toNatClampNeg = e := nI_clamp (by omega)
    rw [nI_p, ce, a3, a4] at pre
    have a3Y : ya_held v e = nI f := by rw [B13]; exact a3
    have a4Y : ya_capacity v e = nI cp := by rw [B12]; exact a4
    have ysnd : ∀ R : Int32 → SY → Prop, wpY_send R v (nI (e + 1)) b = (vp_in (nI e) 8 ∧ (((((ya_closed v) e) = 0 → (wpY_longest (fun r_3 => (((r_3 < 0 → (vp_in (nI e) 8 ∧ (vp_in (nI e) 8 ∧ ∀ a_held_48, a_held_48 = upd (ya_held v) e (nI (f + 1)) → (vp_in (nI (3 * e + f)) 24 ∧ ∀ a_values_50, a_values_50 = upd (ya_values v) (3 * e + f) b → (R 1 (ys_values (ys_held v a_held_48) a_values_50)))))) ∧ (¬ r_3 < 0 → (wpY_waitLine (fun r_51 => (wpY_give (fun u94 => (wpY_wake (fun u136 => (R 1 u136)) u94 r_3 r_51)) v r_3 r_51 b 1)) v r_3 (nI (e + 1)) 0))))) v (nI (e + 1)) 0)) ∧ (¬ ((ya_closed v) e) = 0 → (R 0 v))))) := by
      intro R
      rw [uy_send, nI_p, ce, a3Y, iy33, nI_clamp (show 3 * e + f < 2 ^ 31 by omega), nI_1, nb_64 (f + 1) (by omega)]
    by_cases cl0 : xa_closed u e = 0
    · have cl0Y : ya_closed v e = 0 := by rw [B14]; exact cl0
      have wz : wsh (e + 1) 0 = nI (e + 1) := if_pos rfl
      cases q : bst u S (e + 1) 0 with
      | none =>
        have lx : ∀ post : Int32 → Prop, post (-1) → wpX_longestWaiting post u (nI (e + 1)) := fun post p => by
          rw [← wz]
          refine lo_x H.1 ?_
          rw [q]; exact p
        have ly : ∀ post : Int32 → Prop, post (-1) → wpY_longest post v (nI (e + 1)) 0 := fun post p => lo_y H.1 Hr (by omega) (by omega) (Or.inl rfl) (by rw [q]; exact p)
        by_cases full : cp ≤ f
        · refine Or.inl ⟨fun P p => pre P (xi_yes ek h1 h2 (br_f (by decide) ⟨ve, br_t cl0 (lx _ (br_t rfl ⟨ve, ve, br_t (nI_le full (by omega)) p⟩))⟩)), fun Q q => ?_⟩
          rw [uy_canSend, nI_p, ce, a3Y, a4Y]
          exact yi_yes ekY h1 h2 (br_f (by decide) ⟨ve, br_t cl0Y (ly _ (br_f (by decide) ⟨ve, ve, br_t (nI_le full (by omega)) q⟩))⟩)
        · have HM := mid_chn (F := upd (xa_fill u) e (nI (f + 1))) (HH := upd (xa_held u) (3 * e + f) b) (VV := upd (ya_values v) (3 * e + f) b) H ⟨k, k8, ek, fun i hi => by
            by_cases z : i = e
            · subst z
              refine ⟨f + 1, cp, by omega, a2, (pk_us : upd (xa_fill u) i (nI (f + 1)) i = _), a4, a5, fun q hq => ?_⟩
              show upd (xa_held u) (3 * i + f) b (3 * i + q) = upd (ya_values v) (3 * i + f) b (3 * i + q)
              by_cases z2 : q = f
              · subst z2; rw [pk_us, pk_us]
              · rw [pk_un (by omega), pk_un (by omega)]; exact a6 q (by omega)
            · obtain ⟨f', q', x1, x2, x3, x4, x5, x6⟩ := ch i hi
              refine ⟨f', q', x1, x2, (pk_un z : upd (xa_fill u) e (nI (f + 1)) i = _).trans x3, x4, x5, fun q hq => ?_⟩
              show upd (xa_held u) (3 * e + f) b (3 * i + q) = upd (ya_values v) (3 * e + f) b (3 * i + q)
              rw [pk_un (by omega), pk_un (by omega)]; exact x6 q hq⟩
          refine Or.inr (Or.inr ⟨xs_held (xs_fill u (upd (xa_fill u) e (nI (f + 1)))) (upd (xa_held u) (3 * e + f) b), ys_values (ys_held v (upd (ya_held v) e (nI (f + 1)))) (upd (ya_values v) (3 * e + f) b), fun P p => pre P (xi_yes ek h1 h2 (br_f (by decide) ⟨ve, br_t cl0 (lx _ (br_t rfl ⟨ve, ve, br_f (fun z => full ((nI_leI (by omega) (by omega)).mp z)) ?_⟩))⟩)), fun Q q => ?_, fun R p => ?_, ?_⟩)
          · rw [ux_addValue, nI_p, ce, a3, ix3, nI_clamp (show 3 * e + f < 2 ^ 31 by omega), nI_1]
            exact ⟨ve, vp_in_nI (by omega) (by decide), nm_e ⟨ve, ve, nm_e p⟩⟩
          · rw [uy_canSend, nI_p, ce, a3Y, a4Y]
            exact yi_yes ekY h1 h2 (br_f (by decide) ⟨ve, br_t cl0Y (ly _ (br_f (by decide) ⟨ve, ve, br_f (fun z => full ((nI_leI (by omega) (by omega)).mp z)) q⟩))⟩)
          · rw [ysnd]
            exact ⟨ve, br_t cl0Y (ly _ (br_t (by decide) ⟨ve, ve, nm_e ⟨vp_in_nI (by omega) (by decide), nm_e p⟩⟩))⟩
          · rw [B13]
            exact ⟨HM, rfl, rfl, rfl, rfl⟩
      | some b0 =>
        obtain ⟨i, l0, j0, i3, bS, br, ei, es, sl, l0n, l1n, lk, st, stY, j04, d1, d2, wl⟩ := lo_some H.1 Hr (by omega) (by omega) (Or.inl rfl) q
        have bk : xa_kinds u l0 = 8 ∨ xa_kinds u l0 = 11 := by
          rcases lk with ⟨_, z⟩ | ⟨z, _⟩
          · exact z
          · exact absurd rfl z
        obtain ⟨p0, q0, p6, ep, q6, eq⟩ := ln_rc T l0n bk
        obtain ⟨L, L12, eL⟩ := que_len H.1.2.2.2.2.2.2.2.1 hS bS (fun z => absurd (stY.symm.trans z.1) (by decide))
        have lx : ∀ post : Int32 → Prop, post (nI (3 * b0 + i)) → wpX_longestWaiting post u (nI (e + 1)) := fun post p => by
          rw [← wz]
          refine lo_x H.1 ?_
          rw [es]; exact p
        have ly : ∀ post : Int32 → Prop, post (nI b0) → wpY_longest post v (nI (e + 1)) 0 := fun post p => lo_y H.1 Hr (by omega) (by omega) (Or.inl rfl) (by rw [q]; exact p)
        have V := V_fr (vars := xa_variables u) (b := b0) (x := b) (f := 1) j04 p6 q6
        have HM := mid_wake (f := l0) H bS br st d1 j04 eL L12 l1n V
        have vs : vp_in (nI (3 * b0 + i)) 36 := vp_in_nI (by omega) (by decide)
        have cs : (nI (3 * b0 + i)).toNatClampNeg = 3 * b0 + i := nI_clamp (by omega)
        have dv : nI (3 * b0 + i) / 3 = nI b0 := by rw [nI_d3 (by omega)]; exact congrArg nI (by omega)
        refine Or.inr (Or.inr ⟨xw_s (xs_variables u (upd (upd (xa_variables u) (6 * (4 * b0 + j0) + p0) b) (6 * (4 * b0 + j0) + q0) 1)) b0 (4 * b0 + j0) (nI (l0 + 1)) 0 L, yr_s (ys_resume (ys_vars v (upd (upd (xa_variables u) (6 * (4 * b0 + j0) + p0) b) (6 * (4 * b0 + j0) + q0) 1)) (upd (ya_resume v) b0 (nI (l0 + 1)))) b0 L, fun P p => pre P (xi_yes ek h1 h2 (br_f (by decide) ⟨ve, br_t cl0 (lx _ (br_f (ne_m1 (by omega)) ⟨by decide, nm_r dv ⟨vs, ?_⟩⟩))⟩)), fun Q q => ?_, fun R p => ?_, HM, rfl, rfl, rfl, rfl⟩)
        · rw [cs, sl]
          refine xs_rec (by omega) j04 d1 (by omega) ep p6 eq q6 ⟨vs, ?_⟩
          have sl' : xa_slotLine (xs_variables u (upd (upd (xa_variables u) (6 * (4 * b0 + j0) + p0) b) (6 * (4 * b0 + j0) + q0) 1)) (3 * b0 + i) = nI l0 := sl
          rw [sl']
          exact xw_p (u := xs_variables u (upd (upd (xa_variables u) (6 * (4 * b0 + j0) + p0) b) (6 * (4 * b0 + j0) + q0) 1)) (d := j0 + 1) (by omega) (by omega) (by omega) d1 eL L12 p
        · rw [uy_canSend, nI_p, ce]
          exact yi_yes ekY h1 h2 (br_f (by decide) ⟨ve, br_t cl0Y (ly _ (br_t (nI_pos' (by omega)) q))⟩)
        · rw [ysnd]
          refine ⟨ve, br_t cl0Y (ly _ (br_f (nI_pos (by omega)) (wl _ (yg_give (by omega) j04 d2 (by omega) (by rw [B2]; exact ep) p6 (by rw [B4]; exact eq) q6 ?_))))⟩
          rw [B18]
          exact yw_p (v := ys_vars v (upd (upd (xa_variables u) (6 * (4 * b0 + j0) + p0) b) (6 * (4 * b0 + j0) + q0) 1)) (by omega) (by omega) (B17.trans eL) L12 p
    · have cl0Y : ¬ ya_closed v e = 0 := by rw [B14]; exact cl0
      refine Or.inr (Or.inl ⟨fun P p => pre P (xi_yes ek h1 h2 (br_f (by decide) ⟨ve, br_f cl0 p⟩)), fun Q q => ?_, fun R p => ?_⟩)
      · rw [uy_canSend, nI_p, ce]
        exact yi_yes ekY h1 h2 (br_f (by decide) ⟨ve, br_f cl0Y q⟩)
      · rw [ysnd]
        exact ⟨ve, br_f cl0Y p⟩
