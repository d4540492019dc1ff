/-! SEND, RECV, SELECT: X's offers -/
def c_S (K : Nat → Int32) (w i : Nat) : Prop := (i = w ∧ K i = 10) ∨ (¬ i = w ∧ (st_s K i).head? = some w ∧ K i = 7)
def c_R (K : Nat → Int32) (w i : Nat) : Prop := (i = w ∧ K i = 11) ∨ (¬ i = w ∧ (st_s K i).head? = some w ∧ K i = 8)
theorem c_pc {K : Nat → Int32} {w i : Nat} (k6 : K w = 6) : (c_S K w i ∨ c_R K w i) ↔ ((st_s K i).head? = some w ∧ st_pc (K i) = true) := by
  rw [st_pc_iff]
  constructor
  · rintro ((⟨a, b⟩ | ⟨a, b, c⟩) | (⟨a, b⟩ | ⟨a, b, c⟩))
    · subst a; rw [k6] at b; exact absurd b (by decide)
    · exact ⟨b, Or.inl c⟩
    · subst a; rw [k6] at b; exact absurd b (by decide)
    · exact ⟨b, Or.inr c⟩
  · rintro ⟨a, b⟩
    have ne : ¬ i = w := by
      intro z
      subst z
      obtain ⟨r, er, lt, _⟩ := un_hdo a
      omega
    rcases b with b | b
    · exact Or.inl (Or.inr ⟨ne, a, b⟩)
    · exact Or.inr (Or.inr ⟨ne, a, b⟩)
theorem xs_of {post : Int32 → Prop} {u : SX} {n w i : Nat} (T : sx_st u n) (hw : w < n) (hi : i < n) (h1 : c_S (xa_kinds u) w i → post 1) (h0 : ¬ c_S (xa_kinds u) w i → post 0) : wpX_isSendOf post u (nI w) (nI i) := by
  have n60 := T.2.1.1
  have vi : vp_in (nI i) 60 := vp_in_nI (by omega) (by decide)
  rw [ux_isSendOf, nI_clamp (show i < 2 ^ 31 by omega), T.2.2.2.2.1.1 i hi]
  refine br_c (fun e => ⟨vi, ?_⟩) (fun e => ⟨vi, ?_⟩)
  · have e := (nI_eq (by omega) (by omega)).mp e
    exact br_c (fun k => h1 (Or.inl ⟨e, k⟩)) (fun k => h0 (fun z => by rcases z with ⟨_, z⟩ | ⟨z, _⟩; exact k z; exact z e))
  · have ne : ¬ i = w := fun z => e (by rw [z])
    have iff := st_hd_iff (L := st_s (xa_kinds u) i) (o := w) (fun b hb => by have := (st_lt hb).1; omega) (by omega)
    refine br_c (fun z => ⟨vi, br_c (fun k => h1 (Or.inr ⟨ne, iff.mp z, k⟩)) (fun k => h0 (fun y => ?_))⟩) (fun z => h0 (fun y => ?_))
    · rcases y with ⟨y, _⟩ | ⟨_, _, y⟩
      · exact ne y
      · exact k y
    · rcases y with ⟨y, _⟩ | ⟨_, y, _⟩
      · exact ne y
      · exact z (iff.mpr y)
theorem xr_of {post : Int32 → Prop} {u : SX} {n w i : Nat} (T : sx_st u n) (hw : w < n) (hi : i < n) (h1 : c_R (xa_kinds u) w i → post 1) (h0 : ¬ c_R (xa_kinds u) w i → post 0) : wpX_isReceiveOf post u (nI w) (nI i) := by
  have n60 := T.2.1.1
  have vi : vp_in (nI i) 60 := vp_in_nI (by omega) (by decide)
  rw [ux_isReceiveOf, nI_clamp (show i < 2 ^ 31 by omega), T.2.2.2.2.1.1 i hi]
  refine br_c (fun e => ⟨vi, ?_⟩) (fun e => ⟨vi, ?_⟩)
  · have e := (nI_eq (by omega) (by omega)).mp e
    exact br_c (fun k => h1 (Or.inl ⟨e, k⟩)) (fun k => h0 (fun z => by rcases z with ⟨_, z⟩ | ⟨z, _⟩; exact k z; exact z e))
  · have ne : ¬ i = w := fun z => e (by rw [z])
    have iff := st_hd_iff (L := st_s (xa_kinds u) i) (o := w) (fun b hb => by have := (st_lt hb).1; omega) (by omega)
    refine br_c (fun z => ⟨vi, br_c (fun k => h1 (Or.inr ⟨ne, iff.mp z, k⟩)) (fun k => h0 (fun y => ?_))⟩) (fun z => h0 (fun y => ?_))
    · rcases y with ⟨y, _⟩ | ⟨_, _, y⟩
      · exact ne y
      · exact k y
    · rcases y with ⟨y, _⟩ | ⟨_, y, _⟩
      · exact ne y
      · exact z (iff.mpr y)
theorem c_SR {K : Nat → Int32} {w i : Nat} (h : c_S K w i) : ¬ c_R K w i := by
  rcases h with ⟨a, b⟩ | ⟨a, _, b⟩
  · rintro (⟨_, c⟩ | ⟨c, _⟩)
    · rw [b] at c; exact absurd c (by decide)
    · exact c a
  · rintro (⟨c, _⟩ | ⟨_, _, c⟩)
    · exact a c
    · rw [b] at c; exact absurd c (by decide)
def os_s (u : SX) (SW SL : Nat → Int32) : SX := xs_slotLine (xs_slotWish u SW) SL
theorem os_os {u : SX} {a b a' b' : Nat → Int32} : xs_slotLine (xs_slotWish (os_s u a b) a') b' = os_s u a' b' := Eq.trans (b := (xb_lineCount u, xb_functionCount u, xb_foundLine u, xb_state u, xb_time u, xb_endingPanic u, xb_outputCount u, xb_channelCount u, xb_goroutineCount u, xb_waitsBegun u, xb_running u, xb_queueLength u, xb_kinds u, xb_argA u, xb_argB u, xb_argC u, xb_blockOf u, xb_endOf u, xb_elseOf u, xb_functionLine u, xb_surelySet u, xb_outputs u, xb_capacity u, xb_fill u, xb_closed u, xb_held u, xb_status u, xb_depth u, xb_waitOrder u, xb_waitUntil u, xb_queue u, a', b', xb_position u, xb_mode u, xb_panicOf u, xb_noteCount u, xb_noteFunction u, xb_noteValues u, xb_variables u)) rfl rfl
theorem os_id {u : SX} : os_s u (xa_slotWish u) (xa_slotLine u) = u := rfl
/-- one case is offered -/
theorem oc_1 {post : SX → Prop} {J : Int32 → Int32 → SX → Prop} {u : SX} {SW SL : Nat → Int32} {n w i t sl c : Nat} {x3 x6 : Int32} (ht : t < 48) (i60 : i < 60) (s36 : sl < 36) (ec : xa_channelCount u = nI c) (hx : (x6 = 1 ∧ (xa_kinds u i = 7 ∨ xa_kinds u i = 10)) ∨ (x6 = 0 ∧ ¬ (xa_kinds u i = 7 ∨ xa_kinds u i = 10)))
    (h : J (nI (sl + 1)) (nI (i + 1)) (os_s u (upd SW sl (rl_wish (xa_kinds u) (xa_argA u) (xa_argB u) (xa_variables u) t (nI c) i)) (upd SL sl (nI i)))) : cx_offerCases_41 post J (nI t) (nI w) x3 (nI sl) (nI i) x6 (os_s u SW SL) := by
  have vi : vp_in (nI i) 60 := vp_in_nI i60 (by decide)
  have vs : vp_in (nI sl) 36 := vp_in_nI s36 (by decide)
  have ci : (nI i).toNatClampNeg = i := nI_clamp (by omega)
  have cs : (nI sl).toNatClampNeg = sl := nI_clamp (by omega)
  have ecS : xa_channelCount (xs_slotLine (os_s u SW SL) (upd SL sl (nI i))) = nI c := ec
  have fin : ∀ x y : Int32, ((¬ x < 1 ∧ ¬ nI c < x) → y = rl_wish (xa_kinds u) (xa_argA u) (xa_argB u) (xa_variables u) t (nI c) i) → (¬ (¬ x < 1 ∧ ¬ nI c < x) → 0 = rl_wish (xa_kinds u) (xa_argA u) (xa_argB u) (xa_variables u) t (nI c) i) → cx_offerCases_83 post J (nI t) (nI w) x3 (nI sl) (nI i) x y (os_s u SW SL) := by
    intro x y h1 h2
    rw [ux_offerCases_83, cs]
    refine ⟨vs, nm_r (show _ = upd SL sl (nI i) from rfl) ?_⟩
    by_cases z : ¬ x < 1 ∧ ¬ nI c < x
    · refine xi_yes ecS z.1 z.2 (br_f (by decide) ⟨vs, nm_r (show _ = upd SW sl y from rfl) (nm_r (nI_1 _) (nm_r (nI_1 _) ?_))⟩)
      rw [os_os, h1 z]; exact h
    · have z' : x < 1 ∨ (¬ x < 1 ∧ nI c < x) := by
        by_cases q : x < 1
        · exact Or.inl q
        · by_cases q2 : nI c < x
          · exact Or.inr ⟨q, q2⟩
          · exact absurd ⟨q, q2⟩ z
      refine xi_no ecS z' (br_t rfl ⟨vs, nm_r (show _ = upd SW sl 0 from rfl) (nm_r (nI_1 _) (nm_r (nI_1 _) ?_))⟩)
      rw [os_os, h2 z]; exact h
  rw [ux_offerCases_41, ci]
  rcases hx with ⟨e, k⟩ | ⟨e, k⟩
  · subst e
    refine br_f (by decide) ⟨vi, ?_⟩
    rw [ux_offerCases_65]
    refine xv_val ht ?_
    have ev : rl_val (xa_variables (os_s u SW SL)) t (xa_argA (os_s u SW SL) i) = rl_val (xa_variables u) t (xa_argA u i) := rfl
    rw [ev]
    refine br_f (by decide) (fin _ _ (fun z => ?_) (fun z => ?_))
    · unfold rl_wish
      rw [if_pos k, if_pos z]
    · unfold rl_wish
      rw [if_pos k, if_neg z]
  · subst e
    refine br_t rfl ⟨vi, ?_⟩
    rw [ux_offerCases_65]
    refine xv_val ht ?_
    have ev : rl_val (xa_variables (os_s u SW SL)) t (xa_argB (os_s u SW SL) i) = rl_val (xa_variables u) t (xa_argB u i) := rfl
    rw [ev]
    refine br_t rfl (fin _ _ (fun z => ?_) (fun z => ?_))
    · unfold rl_wish
      rw [if_neg k, if_pos z]
    · unfold rl_wish
      rw [if_neg k, if_neg z]
theorem sx_os {u : SX} {n : Nat} {a b : Nat → Int32} (T : sx_st u n) : sx_st (os_s u a b) n := sx_fr ⟨rfl, rfl, rfl, rfl, rfl, rfl, rfl, rfl, rfl, rfl⟩ T
/-- SEND and RECV offer themselves -/
theorem oc_one {post : SX → Prop} {u : SX} {n g t w c : Nat} (T : sx_st u n) (hg : g < 12) (ht : t < 48) (hw : w < n) (kw : xa_kinds u w = 10 ∨ xa_kinds u w = 11) (hr : xa_running u = nI g) (ec : xa_channelCount u = nI c)
    (h : post (os_s u (upd (xa_slotWish u) (3 * g) (rl_wish (xa_kinds u) (xa_argA u) (xa_argB u) (xa_variables u) t (nI c) w)) (upd (xa_slotLine u) (3 * g) (nI w)))) : wpX_offerCases post u (nI t) (nI w) (nI w) := by
  have n60 := T.2.1.1
  have e3 : nI g * 3 = nI (3 * g) := by
    rw [show (3 : Int32) = nI 3 from rfl, pk_mul]; exact congrArg nI (by omega)
  have last : cx_offerCases_11 post (nI t) (nI w) (nI w) 1 (nI (3 * g + 1)) (nI (w + 1)) (os_s u (upd (xa_slotWish u) (3 * g) (rl_wish (xa_kinds u) (xa_argA u) (xa_argB u) (xa_variables u) t (nI c) w)) (upd (xa_slotLine u) (3 * g) (nI w))) := by
    rw [ux_offerCases_11]
    exact br_t (nI_lt (by omega) (by omega)) h
  have key : cx_offerCases_11 post (nI t) (nI w) (nI w) 2 (nI (3 * g)) (nI w) (os_s u (xa_slotWish u) (xa_slotLine u)) := by
    rw [ux_offerCases_11]
    refine br_f (nI_nlt (Nat.le_refl _) (by omega)) (xs_of (sx_os T) hw hw (fun z => br_f (by decide) ?_) (fun z => br_t rfl (xr_of (sx_os T) hw hw (fun y => br_f (by decide) ?_) (fun y => ?_))))
    · refine oc_1 (n := n) ht (by omega) (by omega) ec (Or.inl ⟨rfl, ?_⟩) last
      rcases z with ⟨_, z⟩ | ⟨z, _⟩
      · exact Or.inr z
      · exact absurd rfl z
    · refine oc_1 (n := n) ht (by omega) (by omega) ec (Or.inr ⟨rfl, ?_⟩) last
      rcases y with ⟨_, y⟩ | ⟨y, _⟩
      · have y : xa_kinds u w = 11 := y
        rw [y]; decide
      · exact absurd rfl y
    · exfalso
      rcases kw with k | k
      · exact z (Or.inl ⟨rfl, k⟩)
      · exact y (Or.inl ⟨rfl, k⟩)
  rw [ux_offerCases, hr, e3]
  rw [os_id] at key
  exact nm_e ⟨2, key⟩
/-- SELECT offers its cases -/
theorem oc_sel {u : SX} {n g t w c : Nat} (T : sx_st u n) (hg : g < 12) (ht : t < 48) (hw : w < n) (k6 : xa_kinds u w = 6) (ec : xa_channelCount u = nI c) (nw : rl_nw u g) :
    ∀ d i, w + d = i → i ≤ st_e (xa_kinds u) w n + 1 → ∃ SW SL, (∀ l, l < i → (st_s (xa_kinds u) l).head? = some w → st_pc (xa_kinds u l) = true → SL (3 * g + st_n (xa_kinds u) st_pc w l) = nI l ∧ SW (3 * g + st_n (xa_kinds u) st_pc w l) = rl_wish (xa_kinds u) (xa_argA u) (xa_argB u) (xa_variables u) t (nI c) l) ∧ (∀ k, st_n (xa_kinds u) st_pc w i ≤ k → k < 3 → SW (3 * g + k) = 0) ∧ (∀ g', ¬ g' = g → fr_e 3 g' (xa_slotWish u) SW ∧ fr_e 3 g' (xa_slotLine u) SL) ∧
      ∀ (post : SX → Prop) m, cx_offerCases_11 post (nI t) (nI w) (nI (st_e (xa_kinds u) w n)) m (nI (3 * g + st_n (xa_kinds u) st_pc w i)) (nI i) (os_s u SW SL) → cx_offerCases_11 post (nI t) (nI w) (nI (st_e (xa_kinds u) w n)) (m + d) (nI (3 * g)) (nI w) u := by
  have n60 := T.2.1.1
  have op : st_op (xa_kinds u w) := by rw [k6]; decide
  obtain ⟨p1, p2, p3, p4, p5⟩ := un_opn T.2.1 hw op
  intro d
  induction d with
  | zero =>
    intro i hi hie
    have : i = w := by omega
    subst this
    refine ⟨xa_slotWish u, xa_slotLine u, fun l hl hh _ => ?_, fun k _ k3 => nw.2 k k3, fun g' _ => ⟨fr_er, fr_er⟩, fun post m h => ?_⟩
    · obtain ⟨_, _, lt, _⟩ := un_hdo hh
      omega
    · rw [xn_0 i (by omega), os_id] at h
      exact h
  | succ d ih =>
    intro i hi hie
    obtain ⟨i, rfl⟩ : ∃ q, i = q + 1 := ⟨i - 1, by omega⟩
    obtain ⟨SW, SL, s1, s2, s3, s4⟩ := ih i (by omega) (by omega)
    by_cases cs : (st_s (xa_kinds u) i).head? = some w ∧ st_pc (xa_kinds u i) = true
    · have lt := sl_lt T.2.2.2.1 (show i < n by omega) cs.1 cs.2
      have nn : st_n (xa_kinds u) st_pc w (i + 1) = st_n (xa_kinds u) st_pc w i + 1 := by rw [xn_cnt, if_pos cs]
      have mono : ∀ l, l < i → (st_s (xa_kinds u) l).head? = some w → st_pc (xa_kinds u l) = true → st_n (xa_kinds u) st_pc w l < st_n (xa_kinds u) st_pc w i := by
        intro l hl h1 h2
        have a : st_n (xa_kinds u) st_pc w (l + 1) = st_n (xa_kinds u) st_pc w l + 1 := by rw [xn_cnt, if_pos ⟨h1, h2⟩]
        have b : ∀ b, l + 1 ≤ b → st_n (xa_kinds u) st_pc w (l + 1) ≤ st_n (xa_kinds u) st_pc w b := by
          intro b
          induction b with
          | zero => intro h; omega
          | succ b ihb =>
            intro h
            by_cases e : l = b
            · subst e; exact Nat.le_refl _
            · have := ihb (by omega)
              rw [xn_cnt (i := b)]; omega
        have := b i (by omega)
        omega
      refine ⟨upd SW (3 * g + st_n (xa_kinds u) st_pc w i) (rl_wish (xa_kinds u) (xa_argA u) (xa_argB u) (xa_variables u) t (nI c) i), upd SL (3 * g + st_n (xa_kinds u) st_pc w i) (nI i), fun l hl h1 h2 => ?_, fun k hk k3 => ?_, fun g' hg' => ⟨fr_et (s3 g' hg').1 (fr_eu (by omega)), fr_et (s3 g' hg').2 (fr_eu (by omega))⟩, fun post m h => ?_⟩
      · by_cases e : l = i
        · subst e; exact ⟨pk_us, pk_us⟩
        · have := mono l (by omega) h1 h2
          rw [pk_un (by omega), pk_un (by omega)]
          exact s1 l (by omega) h1 h2
      · rw [pk_un (by omega)]; exact s2 k (by omega) k3
      · rw [show m + (d + 1) = (m + 1) + d by omega]
        refine s4 post (m + 1) ?_
        rw [nn] at h
        rw [ux_offerCases_11]
        have ins : i < n := by omega
        refine br_f (nI_nlt (by omega) (by omega)) (xs_of (sx_os T) hw ins (fun z => br_f (by decide) ?_) (fun z => br_t rfl (xr_of (sx_os T) hw ins (fun y => br_f (by decide) ?_) (fun y => ?_))))
        · refine oc_1 (n := n) ht (by omega) (by omega) ec (Or.inl ⟨rfl, ?_⟩) h
          rcases z with ⟨_, z⟩ | ⟨_, _, z⟩
          · exact Or.inr z
          · exact Or.inl z
        · refine oc_1 (n := n) ht (by omega) (by omega) ec (Or.inr ⟨rfl, ?_⟩) h
          rcases y with ⟨_, y⟩ | ⟨_, _, y⟩
          · have y : xa_kinds u i = 11 := y
            rw [y]; decide
          · have y : xa_kinds u i = 8 := y
            rw [y]; decide
        · exfalso
          rcases (c_pc (w := w) k6).mpr cs with q | q
          · exact z q
          · exact y q
    · have nn : st_n (xa_kinds u) st_pc w (i + 1) = st_n (xa_kinds u) st_pc w i := by rw [xn_cnt, if_neg cs]; rfl
      refine ⟨SW, SL, fun l hl h1 h2 => ?_, fun k hk k3 => s2 k (by omega) k3, s3, fun post m h => ?_⟩
      · by_cases e : l = i
        · subst e; exact absurd ⟨h1, h2⟩ cs
        · exact s1 l (by omega) h1 h2
      · rw [show m + (d + 1) = (m + 1) + d by omega]
        refine s4 post (m + 1) ?_
        rw [nn] at h
        rw [ux_offerCases_11]
        have ins : i < n := by omega
        refine br_f (nI_nlt (by omega) (by omega)) (xs_of (sx_os T) hw ins (fun z => ?_) (fun z => br_t rfl (xr_of (sx_os T) hw ins (fun y => ?_) (fun y => br_t rfl (nm_r (nI_1 _) h)))))
        · exact absurd ((c_pc (w := w) k6).mp (Or.inl z)) cs
        · exact absurd ((c_pc (w := w) k6).mp (Or.inr y)) cs
