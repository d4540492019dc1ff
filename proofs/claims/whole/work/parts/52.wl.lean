/-! where a goroutine waits for a channel: Y's waitLine, X's slots -/
theorem wi_s {K A B vars : Nat → Int32} {t j m c : Nat} (c1 : 1 ≤ c) (c8 : c ≤ 8) (m8 : m ≤ 8) : rl_wish K A B vars t (nI m) j = -(nI c) ↔ ((K j = 7 ∨ K j = 10) ∧ rl_val vars t (A j) = nI c ∧ c ≤ m) := by
  have neg : ∀ k, k < 9 → ∀ c, c < 9 → 1 ≤ c → (-(nI k) = -(nI c) ↔ k = c) := by decide
  have pn : ∀ k, k < 9 → ∀ c, c < 9 → 1 ≤ c → ¬ nI k = -(nI c) := by decide
  have rng : ∀ x : Int32, (¬ x < 1 ∧ ¬ nI m < x) → ∃ k, 1 ≤ k ∧ k ≤ m ∧ x = nI k := by
    intro x hx
    obtain ⟨k, k1, k2⟩ := rg_le (x := x) (N := m) (by omega) (fun z => hx.1 (Int32.lt_trans z (by decide))) hx.2
    subst k2
    refine ⟨k, ?_, by omega, rfl⟩
    rcases Nat.lt_or_ge k 1 with z | z
    · exact absurd (show nI k < 1 by rw [show k = 0 by omega]; decide) hx.1
    · exact z
  have inr : ∀ k, 1 ≤ k → k ≤ m → (¬ nI k < 1 ∧ ¬ nI m < nI k) := fun k k1 k2 => ⟨fun z => by have := (nI_ltI (b := 1) (by omega) (by decide)).mp z; omega, nI_nlt k2 (by omega)⟩
  unfold rl_wish
  by_cases kk : K j = 7 ∨ K j = 10
  · rw [if_pos kk]
    by_cases r : ¬ rl_val vars t (A j) < 1 ∧ ¬ nI m < rl_val vars t (A j)
    · rw [if_pos r]
      obtain ⟨k, k1, k2, k3⟩ := rng _ r
      rw [k3]
      constructor
      · intro z
        have := (neg k (by omega) c (by omega) c1).mp z
        subst this
        exact ⟨kk, rfl, k2⟩
      · rintro ⟨_, z, _⟩
        rw [z]
    · rw [if_neg r]
      constructor
      · intro z; exact absurd z (pn 0 (by omega) c (by omega) c1)
      · rintro ⟨_, z, zm⟩
        rw [z] at r
        exact absurd (inr c c1 zm) r
  · rw [if_neg kk]
    constructor
    · intro z
      by_cases r : ¬ rl_val vars t (B j) < 1 ∧ ¬ nI m < rl_val vars t (B j)
      · rw [if_pos r] at z
        obtain ⟨k, k1, k2, k3⟩ := rng _ r
        rw [k3] at z
        exact absurd z (pn k (by omega) c (by omega) c1)
      · rw [if_neg r] at z
        exact absurd z (pn 0 (by omega) c (by omega) c1)
    · rintro ⟨z, _⟩
      exact absurd z kk
theorem wi_r {K A B vars : Nat → Int32} {t j m c : Nat} (c1 : 1 ≤ c) (c8 : c ≤ 8) (m8 : m ≤ 8) : rl_wish K A B vars t (nI m) j = nI c ↔ (¬ (K j = 7 ∨ K j = 10) ∧ rl_val vars t (B j) = nI c ∧ c ≤ m) := by
  have pn : ∀ k, k < 9 → ∀ c, c < 9 → 1 ≤ c → ¬ -(nI k) = nI c := by decide
  have rng : ∀ x : Int32, (¬ x < 1 ∧ ¬ nI m < x) → ∃ k, 1 ≤ k ∧ k ≤ m ∧ x = nI k := by
    intro x hx
    obtain ⟨k, k1, k2⟩ := rg_le (x := x) (N := m) (by omega) (fun z => hx.1 (Int32.lt_trans z (by decide))) hx.2
    subst k2
    refine ⟨k, ?_, by omega, rfl⟩
    rcases Nat.lt_or_ge k 1 with z | z
    · exact absurd (show nI k < 1 by rw [show k = 0 by omega]; decide) hx.1
    · exact z
  have inr : ∀ k, 1 ≤ k → k ≤ m → (¬ nI k < 1 ∧ ¬ nI m < nI k) := fun k k1 k2 => ⟨fun z => by have := (nI_ltI (b := 1) (by omega) (by decide)).mp z; omega, nI_nlt k2 (by omega)⟩
  have z0 : ¬ (0 : Int32) = nI c := fun z => by have := (nI_eq (a := 0) (by omega) (by omega)).mp z; omega
  unfold rl_wish
  by_cases kk : K j = 7 ∨ K j = 10
  · rw [if_pos kk]
    constructor
    · intro z
      by_cases r : ¬ rl_val vars t (A j) < 1 ∧ ¬ nI m < rl_val vars t (A j)
      · rw [if_pos r] at z
        obtain ⟨k, k1, k2, k3⟩ := rng _ r
        rw [k3] at z
        exact absurd z (pn k (by omega) c (by omega) c1)
      · rw [if_neg r] at z
        exact absurd z z0
    · rintro ⟨z, _⟩
      exact absurd kk z
  · rw [if_neg kk]
    by_cases r : ¬ rl_val vars t (B j) < 1 ∧ ¬ nI m < rl_val vars t (B j)
    · rw [if_pos r]
      obtain ⟨k, k1, k2, k3⟩ := rng _ r
      rw [k3]
      constructor
      · intro z
        have := (nI_eq (by omega) (by omega)).mp z
        subst this
        exact ⟨kk, rfl, k2⟩
      · rintro ⟨_, z, _⟩
        exact z
    · rw [if_neg r]
      constructor
      · intro z; exact absurd z z0
      · rintro ⟨_, z, zm⟩
        rw [z] at r
        exact absurd (inr c c1 zm) r
/-- the wish for channel c, to send (sn = 1) or to receive (sn = 0) -/
def wsh (c : Nat) (sn : Int32) : Int32 := if sn = 0 then nI c else -(nI c)
theorem wsh_0 {c : Nat} {sn : Int32} (c1 : 1 ≤ c) (c8 : c ≤ 8) : ¬ (0 : Int32) = wsh c sn := by
  have pn : ∀ c, c < 9 → 1 ≤ c → (¬ (0 : Int32) = -(nI c) ∧ ¬ (0 : Int32) = nI c) := by decide
  unfold wsh
  by_cases z : sn = 0
  · rw [if_pos z]; exact (pn c (by omega) c1).2
  · rw [if_neg z]; exact (pn c (by omega) c1).1
/-- a line that offers channel c -/
def wl_is (K A B vars : Nat → Int32) (t m c : Nat) (sn : Int32) (j : Nat) : Prop := c ≤ m ∧ ((sn = 0 ∧ ¬ (K j = 7 ∨ K j = 10) ∧ rl_val vars t (B j) = nI c) ∨ (¬ sn = 0 ∧ (K j = 7 ∨ K j = 10) ∧ rl_val vars t (A j) = nI c))
theorem wi_w {K A B vars : Nat → Int32} {t j m c : Nat} {sn : Int32} (c1 : 1 ≤ c) (c8 : c ≤ 8) (m8 : m ≤ 8) : rl_wish K A B vars t (nI m) j = wsh c sn ↔ wl_is K A B vars t m c sn j := by
  unfold wsh wl_is
  by_cases z : sn = 0
  · rw [if_pos z, wi_r c1 c8 m8]
    exact ⟨fun q => ⟨q.2.2, Or.inl ⟨z, q.1, q.2.1⟩⟩, fun q => by rcases q with ⟨a, ⟨_, b, c⟩ | ⟨b, _⟩⟩; exact ⟨b, c, a⟩; exact absurd z b⟩
  · rw [if_neg z, wi_s c1 c8 m8]
    exact ⟨fun q => ⟨q.2.2, Or.inr ⟨z, q.1, q.2.1⟩⟩, fun q => by rcases q with ⟨a, ⟨b, _⟩ | ⟨_, b, c⟩⟩; exact absurd b z; exact ⟨b, c, a⟩⟩
theorem n_const {K : Nat → Int32} {P : Int32 → Bool} {o a : Nat} : ∀ b, a ≤ b → (∀ k, a ≤ k → k < b → ¬ ((st_s K k).head? = some o ∧ P (K k) = true)) → st_n K P o b = st_n K P o a := by
  intro b
  induction b with
  | zero => intro h _; rw [show a = 0 by omega]
  | succ b ih =>
    intro h hk
    by_cases e : a = b + 1
    · rw [e]
    · rw [xn_cnt, if_neg (hk b (by omega) (by omega)), ih (by omega) (fun k x y => hk k x (by omega))]; rfl
/-- SELECT: the loop over its cases -/
theorem wl_sel {Q : Int32 → Prop} {u : SX} {v : SY} {n g j w m c : Nat} {sn : Int32} (T : sy_st v n) (hg : g < 12) (j4 : j < 4) (hd : ya_depth v g = nI (j + 1)) (B1 : ya_kind v = xa_kinds u) (B2 : ya_opA v = xa_argA u) (B3 : ya_opB v = xa_argB u) (B18 : ya_vars v = xa_variables u) (hw : w < n) (k6 : xa_kinds u w = 6) (c1 : 1 ≤ c) (c8 : c ≤ 8) (m8 : m ≤ 8) (cm : c ≤ m) (hsn : sn = 0 ∨ sn = 1)
    (sl1 : ∀ l, l < n → (st_s (xa_kinds u) l).head? = some w → st_pc (xa_kinds u l) = true → xa_slotLine u (3 * g + st_n (xa_kinds u) st_pc w l) = nI l ∧ xa_slotWish u (3 * g + st_n (xa_kinds u) st_pc w l) = rl_wish (xa_kinds u) (xa_argA u) (xa_argB u) (xa_variables u) (4 * g + j) (nI m) l)
    (sl2 : ∀ i, st_n (xa_kinds u) st_pc w n ≤ i → i < 3 → xa_slotWish u (3 * g + i) = 0)
    (hS : ∀ i l, fs (xa_slotWish u) (wsh c sn) g = some i → xa_slotLine u (3 * g + i) = nI l → l < n → st_pc (xa_kinds u l) = true → wl_is (xa_kinds u) (xa_argA u) (xa_argB u) (xa_variables u) (4 * g + j) m c sn l → Q (nI l)) (hN : fs (xa_slotWish u) (wsh c sn) g = none → Q (-1)) :
    ∀ d i, (i = w ∨ (st_P (ya_kind v) w i ∧ i < n)) → n - i ≤ d → (∀ k, k < st_n (xa_kinds u) st_pc w (i + 1) → k < 3 → ¬ xa_slotWish u (3 * g + k) = wsh c sn) → ∀ R : Int32 → Prop, (∀ r, cy_waitLine_142 Q (nI g) (nI c) sn (nI w) v (d + 1) r → R r) → wpY_part R v (nI w) (nI i) := by
  have n60 := T.2.1.1
  have op : st_op (ya_kind v w) := by rw [B1, k6]; decide
  have ok := T.2.2.2.1
  rw [B1] at ok
  have W := T.2.1
  rw [B1] at W
  intro d
  induction d with
  | zero =>
    intro i hi h
    rcases hi with z | z <;> omega
  | succ d ih =>
    intro i hi h hno R hR
    have en := (un_opn T.2.1 hw op).2.1
    refine sy_part T hw op hi (fun j' a1 a2 a3 a4 => hR _ ?_) (fun z => hR _ ?_)
    · have j'n : j' < n := by omega
      rw [B1] at a3 a4
      have nc : st_n (xa_kinds u) st_pc w j' = st_n (xa_kinds u) st_pc w (i + 1) := n_const j' (by omega) (fun k x y z => a4 k (by omega) y ⟨z.1, Or.inr (sec_or.mpr (Or.inl z.2))⟩)
      have nxt : ¬ (st_pc (xa_kinds u j') = true ∧ wl_is (xa_kinds u) (xa_argA u) (xa_argB u) (xa_variables u) (4 * g + j) m c sn j') → cy_waitLine_201 Q (cy_waitLine_142 Q (nI g) (nI c) sn (nI w) v (d + 1)) (nI g) (nI c) sn (nI w) (nI j') v := by
        intro z
        rw [uy_waitLine_201]
        refine ih j' (Or.inr ⟨by rw [B1]; exact a3, j'n⟩) (by omega) (fun k hk k3 => ?_) _ (fun r hr => hr)
        rw [xn_cnt] at hk
        by_cases pc : st_pc (xa_kinds u j') = true
        · rw [if_pos ⟨a3.1, pc⟩] at hk
          by_cases e : k = st_n (xa_kinds u) st_pc w j'
          · rw [e, (sl1 j' j'n a3.1 pc).2, wi_w c1 c8 m8]
            exact fun y => z ⟨pc, y⟩
          · exact hno k (by omega) k3
        · rw [if_neg (fun y => pc y.2)] at hk
          exact hno k (by omega) k3
      have hit : st_pc (xa_kinds u j') = true → wl_is (xa_kinds u) (xa_argA u) (xa_argB u) (xa_variables u) (4 * g + j) m c sn j' → Q (nI j') := by
        intro pc y
        obtain ⟨s1, s2⟩ := sl1 j' j'n a3.1 pc
        have lt := sl_lt ok j'n a3.1 pc
        refine hS _ j' (fs_is lt (by rw [s2, wi_w c1 c8 m8]; exact y) (fun k hk => hno k (by omega) (by omega))) s1 j'n pc y
      have vj : vp_in (nI j') 60 := vp_in_nI (by omega) (by decide)
      have cj : (nI j').toNatClampNeg = j' := nI_clamp (by omega)
      rw [uy_waitLine_142, cj, B1]
      refine br_f (nI_pos (by omega)) ⟨vj, ?_⟩
      rcases hsn with sn0 | sn1
      · subst sn0
        refine br_t rfl ?_
        rw [uy_waitLine_165, cj, B3]
        refine br_c (fun k8 => br_t rfl ⟨vj, ?_⟩) (fun k8 => nxt (fun y => ?_))
        · rw [uy_waitLine_191]
          refine yv_val hg j4 hd ?_
          rw [B18]
          have n7 : ¬ (xa_kinds u j' = 7 ∨ xa_kinds u j' = 10) := by rw [k8]; decide
          refine br_c (fun e => hit (by rw [k8]; decide) ⟨cm, Or.inl ⟨rfl, n7, e⟩⟩) (fun e => nxt (fun y => ?_))
          rcases y.2.2 with ⟨_, _, q⟩ | ⟨q, _⟩
          · exact e q
          · exact q rfl
        · rcases y.2.2 with ⟨_, q, _⟩ | ⟨q, _⟩
          · rcases st_pc_iff.mp y.1 with z | z
            · exact q (Or.inl z)
            · exact k8 z
          · exact q rfl
      · subst sn1
        refine br_f (by decide) ?_
        rw [uy_waitLine_165, cj, B2]
        refine br_c (fun k7 => br_f (by decide) ⟨vj, ?_⟩) (fun k7 => nxt (fun y => ?_))
        · rw [uy_waitLine_191]
          refine yv_val hg j4 hd ?_
          rw [B18]
          refine br_c (fun e => hit (by rw [k7]; decide) ⟨cm, Or.inr ⟨by decide, Or.inl k7, e⟩⟩) (fun e => nxt (fun y => ?_))
          rcases y.2.2 with ⟨q, _⟩ | ⟨_, _, q⟩
          · exact absurd q (by decide)
          · exact e q
        · rcases y.2.2 with ⟨q, _⟩ | ⟨_, q, _⟩
          · exact absurd q (by decide)
          · rcases st_pc_iff.mp y.1 with z | z
            · exact k7 z
            · rcases q with q | q
              · exact k7 q
              · rw [z] at q; exact absurd q (by decide)
    · rw [uy_waitLine_142]
      refine br_t (by decide) (hN (fs_no (fun k k3 => ?_)))
      rw [B1] at z
      have nc : st_n (xa_kinds u) st_pc w n = st_n (xa_kinds u) st_pc w (i + 1) := by
        have i1n : i + 1 ≤ n := by
          rcases hi with q | q <;> omega
        refine n_const n i1n (fun k x y q => ?_)
        have := al_in W y q.1 (by rcases st_pc_iff.mp q.2 with e | e <;> (rw [e]; decide))
        exact z k (by omega) this.2 ⟨q.1, Or.inr (sec_or.mpr (Or.inl q.2))⟩
      rcases Nat.lt_or_ge k (st_n (xa_kinds u) st_pc w (i + 1)) with q | q
      · exact hno k q k3
      · rw [sl2 k (by omega) k3]; exact wsh_0 c1 c8
