theorem i_vc_channel {k : Nat} {u : SX} {v : SY} (I : i_Rel k u v) (hk : k + 5 ≤ 2560) (v1 : Int32) : wpX_channel (fun r => wpY_channel (fun r' => r' = r ∧ i_Rel (k + 5) u v) v v1) u v1 := by
  have I' := i_up I
  obtain ⟨⟨_, B1, B2, B3, B4, B5, B6, B7, B8, B9, B10, B11, B12, B13, B14, B15, B16, B17, B18, B19, B20, B21, B22⟩, ⟨S, c, hS, eS, hc, ec, O⟩, FF⟩ := I
  rw [ux_channel, ux_isChannel]
  have ey : ∀ P : Int32 → Prop, wpY_channelAt P v v1 = ((v1 < 1 → P 0) ∧ (¬ v1 < 1 → ((xa_channelCount u < v1 → P 0) ∧ (¬ xa_channelCount u < v1 → P 1)))) := fun P => by rw [uy_channelAt, B11]
  refine br_c (fun a => br_t rfl ?_) (fun a => br_c (fun b => br_t rfl ?_) (fun b => br_f (by decide) ?_))
  · rw [uy_channel, ey]
    exact br_t a (br_t rfl ⟨rfl, I'⟩)
  · rw [uy_channel, ey]
    exact br_f a (br_t b (br_t rfl ⟨rfl, I'⟩))
  · have b' := b
    rw [ec] at b'
    have h0 : ¬ v1 < 0 := fun z => a (Int32.lt_of_lt_of_le z (by decide))
    obtain ⟨p, hp, rfl⟩ := rg_le (by omega) h0 b'
    have p1 : 1 ≤ p := by
      by_cases z : 1 ≤ p
      · exact z
      · exact absurd (nI_lt (b := 1) (by omega) (by decide)) a
    have pm : nI p - 1 = nI (p - 1) := pk_sub (b := 1) p1
    have vp : vp_in (nI (p - 1)) 8 := vp_in_nI (by omega) (by decide)
    rw [pm]
    refine ⟨vp, br_c (fun z => ⟨vp, ?_⟩) (fun z => ⟨vp, ?_⟩)⟩
    · rw [uy_channel, ey, pm, B14, B13]
      exact br_f a (br_f b (br_f (by decide) ⟨vp, vp, br_t z ⟨Int32.add_zero _, I'⟩⟩))
    · rw [uy_channel, ey, pm, B14, B13]
      exact br_f a (br_f b (br_f (by decide) ⟨vp, vp, br_f z ⟨rfl, I'⟩⟩))
theorem i_vc_waitsAt {k : Nat} {u : SX} {v : SY} (I : i_Rel k u v) (hk : k + 5 ≤ 2560) (v1 : Int32) : wpX_waitsAt (fun r => wpY_waitsAt (fun r' => r' = r ∧ i_Rel (k + 5) u v) v v1) u v1 := by
  have I' := i_up I
  obtain ⟨⟨_, B1, B2, B3, B4, B5, B6, B7, B8, B9, B10, B11, B12, B13, B14, B15, B16, B17, B18, B19, B20, B21, B22⟩, ⟨S, c, hS, eS, hc, ec, O⟩, FF⟩ := I
  rw [ux_waitsAt]
  refine br_c (fun a => ?_) (fun a => br_c (fun b => ?_) (fun b => ?_))
  · rw [uy_waitsAt]
    exact br_t a ⟨rfl, I'⟩
  · have b' := b
    rw [eS] at b'
    obtain ⟨q, hq, rfl⟩ := rg_lt (N := S) (by omega) a (Int32.not_le.mpr b')
    obtain ⟨d, d4, e1, e2, st, _⟩ := O q hq
    have cq : (nI q).toNatClampNeg = q := nI_clamp (by omega)
    have vq : vp_in (nI q) 12 := vp_in_nI (by omega) (by decide)
    rw [cq]
    rcases st with ⟨s1, s2⟩ | ⟨s1, s2, d0, ep⟩ | ⟨s1, s2⟩
    · refine ⟨vq, br_t s1 ?_⟩
      rw [uy_waitsAt, B15, cq]
      exact br_f a (br_t b ⟨vq, br_t s2 ⟨rfl, I'⟩⟩)
    · refine ⟨vq, br_f (by rw [s1]; decide) ⟨vq, br_t s1 (xg_topOf (by omega) d0 e1 ⟨vp_in_nI (by omega) (by decide), ?_⟩)⟩⟩
      rw [nI_clamp (by omega), uy_waitsAt, B15, cq]
      refine br_f a (br_t b ⟨vq, br_f (by rw [s2]; decide) ⟨vq, br_f (by rw [s2]; decide) (yg_topOf (by omega) d0 e2 ⟨vp_in_nI (by omega) (by decide), ?_, I'⟩)⟩⟩)
      rw [nI_clamp (by omega), ep]
    · refine ⟨vq, br_f (by rcases s1 with z | z <;> (rw [z]; decide)) ⟨vq, br_f (by rcases s1 with z | z <;> (rw [z]; decide)) ?_⟩⟩
      rw [uy_waitsAt, B15, cq]
      exact br_f a (br_t b ⟨vq, br_f (by rw [s2]; decide) ⟨vq, br_t s2 ⟨rfl, I'⟩⟩⟩)
  · rw [uy_waitsAt, B15]
    exact br_f a (br_f b ⟨rfl, I'⟩)
/-- how many of the first j activations of goroutine g panic -/
def rl_cnt (md : Nat → Int32) (g : Nat) : Nat → Nat
  | 0 => 0
  | j + 1 => rl_cnt md g j + (if md (4 * g + j) = 2 then 1 else 0)
theorem rl_cnt_le {md : Nat → Int32} {g : Nat} : ∀ j, rl_cnt md g j ≤ j := by
  intro j
  induction j with
  | zero => exact Nat.le_refl 0
  | succ j ih =>
    show rl_cnt md g j + _ ≤ _
    split <;> omega
theorem xp_pk {post : Int32 → Prop} {u : SX} {g d : Nat} (hg : g < 12) (d4 : d ≤ 4) (e : xa_depth u g = nI d) (h : post (nI (rl_cnt (xa_mode u) g d))) :
    ∀ r j, j + r = d → ∀ m, r < m → cx_panicking_14 post (nI g) u m (nI (rl_cnt (xa_mode u) g j)) (nI j) := by
  have vg : vp_in (nI g) 12 := vp_in_nI hg (by decide)
  have cg : (nI g).toNatClampNeg = g := nI_clamp (by omega)
  intro r
  induction r with
  | zero =>
    intro j hj m hm
    obtain ⟨m, rfl⟩ : ∃ q, m = q + 1 := ⟨m - 1, by omega⟩
    rw [ux_panicking_14, cg, e]
    have ej : j = d := by omega
    rw [ej]
    exact ⟨vg, br_t (nI_le (Nat.le_refl _) (by omega)) h⟩
  | succ r ih =>
    intro j hj m hm
    obtain ⟨m, rfl⟩ : ∃ q, m = q + 1 := ⟨m - 1, by omega⟩
    have ix : nI g * 4 + nI j = nI (4 * g + j) := by
      rw [show (4 : Int32) = nI 4 from rfl, pk_mul, nI_add]; exact congrArg nI (by omega)
    have nx := ih (j + 1) (by omega) m (by omega)
    rw [show rl_cnt (xa_mode u) g (j + 1) = rl_cnt (xa_mode u) g j + (if xa_mode u (4 * g + j) = 2 then 1 else 0) from rfl] at nx
    rw [ux_panicking_14, cg, e, ix, nI_clamp (show 4 * g + j < 2 ^ 31 by omega)]
    refine ⟨vg, br_f (nI_ge (by omega) (by omega)) ⟨vp_in_nI (by omega) (by decide), br_c (fun z => ?_) (fun z => ?_)⟩⟩
    · rw [if_pos z] at nx
      exact nm_r (nI_1 _) (nm_r (nI_1 _) nx)
    · rw [if_neg z] at nx
      exact nm_r (nI_1 _) nx
theorem yp_pk {post : Int32 → Prop} {v : SY} {md : Nat → Int32} {g d : Nat} (hg : g < 12) (d0 : 0 < d) (d4 : d ≤ 4) (e : ya_depth v g = nI d) (hm : ∀ j, j < d → (md (4 * g + j) = 2 ↔ ¬ ya_panics v (4 * g + j) = 0)) (h : post (nI (rl_cnt md g d))) :
    ∀ r j, j + r = d → ∀ m, r < m → cy_panicking_14 post (nI g) v m (nI (rl_cnt md g j)) (nI (4 * g + j)) := by
  intro r
  induction r with
  | zero =>
    intro j hj m hmm
    obtain ⟨m, rfl⟩ : ∃ q, m = q + 1 := ⟨m - 1, by omega⟩
    rw [uy_panicking_14]
    have ej : j = d := by omega
    rw [ej]
    exact yg_topOf hg d0 e (br_t (nI_lt (by omega) (by omega)) h)
  | succ r ih =>
    intro j hj m hmm
    obtain ⟨m, rfl⟩ : ∃ q, m = q + 1 := ⟨m - 1, by omega⟩
    have nx := ih (j + 1) (by omega) m (by omega)
    rw [show rl_cnt md g (j + 1) = rl_cnt md g j + (if md (4 * g + j) = 2 then 1 else 0) from rfl, show 4 * g + (j + 1) = 4 * g + j + 1 by omega] at nx
    rw [uy_panicking_14, nI_clamp (show 4 * g + j < 2 ^ 31 by omega)]
    refine yg_topOf hg d0 e (br_f (nI_nlt (by omega) (by omega)) ⟨vp_in_nI (by omega) (by decide), br_c (fun z => ?_) (fun z => ?_)⟩)
    · rw [if_neg (fun w => (hm j (by omega)).mp w z)] at nx
      exact nm_r (nI_1 _) nx
    · rw [if_pos ((hm j (by omega)).mpr z)] at nx
      exact nm_r (nI_1 _) (nm_r (nI_1 _) nx)
theorem i_vc_panicking {k : Nat} {u : SX} {v : SY} (I : i_Rel k u v) (hk : k + 5 ≤ 2560) (v1 : Int32) : wpX_panicking (fun r => wpY_panicking (fun r' => r' = r ∧ i_Rel (k + 5) u v) v v1) u v1 := by
  have I' := i_up I
  rw [ux_panicking]
  rcases rl_act I v1 with h | ⟨q, d, hq, rfl, d0, d4, e1, e2, og, h⟩
  · refine (h _ (fun _ => True) (br_t rfl ?_) True.intro).1
    rw [uy_panicking]
    exact (h (fun _ => True) _ True.intro (br_t rfl ⟨rfl, I'⟩)).2
  · obtain ⟨d', _, e1', _, _, hm⟩ := og
    have dd : d' = d := by
      rw [e1] at e1'
      exact ((nI_eq (by omega) (by omega)).mp e1').symm
    subst dd
    refine (h _ (fun _ => True) (br_f (by decide) ⟨_, xp_pk hq d4 e1 ?_ d' 0 (by omega) (d' + 1) (by omega)⟩) True.intro).1
    rw [uy_panicking]
    have ix : (4 : Int32) * nI q = nI (4 * q + 0) := by
      rw [show (4 : Int32) = nI 4 from rfl, pk_mul]; rfl
    exact (h (fun _ => True) _ True.intro (br_f (by decide) (nm_r ix ⟨_, yp_pk (md := xa_mode u) hq d0 d4 e2 hm ⟨rfl, I'⟩ d' 0 (by omega) (d' + 1) (by omega)⟩))).2
