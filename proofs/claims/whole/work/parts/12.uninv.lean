/-! UNSET: the trajectories, and what holds of them -/
def un_w0 (K A : Nat → Int32) (i : Nat) : Nat := if K i = 0 then 128 - 2 ^ (A i).toNatClampNeg else 0
noncomputable def un_ty (K A C : Nat → Int32) (n : Nat) : Nat → Nat → Nat
  | 0 => fun t => un_w0 K A t
  | i + 1 => fun t => un_bits (fun b => (un_ty K A C n i t).testBit b = true ∨ ∃ j o, un_Y K A C n i (un_ty K A C n i i) j o ∧ st_ch K n j = t ∧ o.testBit b = true)
def un_cur (K A : Nat → Int32) (i w : Nat) : Nat := if K i = 0 then un_w0 K A i else w
noncomputable def un_tx (K A C : Nat → Int32) (n : Nat) : Nat → Nat → Nat
  | 0 => fun _ => 0
  | i + 1 => fun t => un_bits (fun b => (if t = i then un_cur K A i (un_tx K A C n i i) else un_tx K A C n i t).testBit b = true ∨ ∃ o, un_X K A C n i (un_cur K A i (un_tx K A C n i i)) t o ∧ o.testBit b = true)
theorem un_ty_s {K A C : Nat → Int32} {n i t b : Nat} : (un_ty K A C n (i + 1) t).testBit b = true ↔ b < 7 ∧ ((un_ty K A C n i t).testBit b = true ∨ ∃ j o, un_Y K A C n i (un_ty K A C n i i) j o ∧ st_ch K n j = t ∧ o.testBit b = true) := un_bits_t (P := fun b => (un_ty K A C n i t).testBit b = true ∨ ∃ j o, un_Y K A C n i (un_ty K A C n i i) j o ∧ st_ch K n j = t ∧ o.testBit b = true)
theorem un_tx_s {K A C : Nat → Int32} {n i t b : Nat} : (un_tx K A C n (i + 1) t).testBit b = true ↔ b < 7 ∧ ((if t = i then un_cur K A i (un_tx K A C n i i) else un_tx K A C n i t).testBit b = true ∨ ∃ o, un_X K A C n i (un_cur K A i (un_tx K A C n i i)) t o ∧ o.testBit b = true) := un_bits_t (P := fun b => (if t = i then un_cur K A i (un_tx K A C n i i) else un_tx K A C n i t).testBit b = true ∨ ∃ o, un_X K A C n i (un_cur K A i (un_tx K A C n i i)) t o ∧ o.testBit b = true)
theorem un_ty_lt {K A C : Nat → Int32} {n i t : Nat} : un_ty K A C n (i + 1) t < 128 := un_bits_lt (P := fun b => (un_ty K A C n i t).testBit b = true ∨ ∃ j o, un_Y K A C n i (un_ty K A C n i i) j o ∧ st_ch K n j = t ∧ o.testBit b = true)
theorem un_tx_lt {K A C : Nat → Int32} {n i t : Nat} : un_tx K A C n (i + 1) t < 128 := un_bits_lt (P := fun b => (if t = i then un_cur K A i (un_tx K A C n i i) else un_tx K A C n i t).testBit b = true ∨ ∃ o, un_X K A C n i (un_cur K A i (un_tx K A C n i i)) t o ∧ o.testBit b = true)
/-- a program's params -/
def un_Pm (K A : Nat → Int32) (n : Nat) : Prop := ∀ i, i < n → K i = 0 → ∃ p, p < 3 ∧ A i = nI p
theorem un_w0_ok {K A : Nat → Int32} {n i : Nat} (P : un_Pm K A n) (hi : i < n) : un_w0 K A i < 128 ∧ (un_w0 K A i = 0 ∨ (un_w0 K A i).testBit 6 = true) := by
  unfold un_w0
  by_cases k0 : K i = 0
  · obtain ⟨p, hp, e⟩ := P i hi k0
    rw [if_pos k0, e, nI_clamp (by omega)]
    have : p = 0 ∨ p = 1 ∨ p = 2 := by omega
    rcases this with z | z | z <;> (subst z; decide)
  · rw [if_neg k0]; exact ⟨by decide, Or.inl rfl⟩
theorem un_o6 {K A C : Nat → Int32} {i w : Nat} (h : w.testBit 6 = true) : (un_o K A C i w).testBit 6 = true := by
  have hs := un_s_lt (K := K) (A := A) (C := C) (i := i)
  unfold un_o
  rw [Nat.testBit_and, h, Bool.true_and]
  have : ∀ s, s < 64 → (127 - s).testBit 6 = true := by decide
  exact this _ hs
theorem un_q {K A C : Nat → Int32} {m w b : Nat} : (un_xo K A C m w).testBit b = true ↔ w.testBit b = true ∧ (K m = 8 → (127 - un_s K A C m).testBit b = true) := by
  unfold un_xo
  by_cases k : K m = 8
  · rw [if_pos k]
    unfold un_o
    rw [Nat.testBit_and, Bool.and_eq_true]
    exact ⟨fun h => ⟨h.1, fun _ => h.2⟩, fun h => ⟨h.1, h.2 k⟩⟩
  · rw [if_neg k]
    exact ⟨fun h => ⟨h, fun z => absurd z k⟩, fun h => h.1⟩
/-- what holds at time i -/
def un_I (K A C : Nat → Int32) (n i : Nat) (x y : Nat → Nat) : Prop :=
  (∀ t, t < n → x t < 128 ∧ y t < 128 ∧ (x t = 0 ∨ (x t).testBit 6 = true) ∧ (y t = 0 ∨ (y t).testBit 6 = true)) ∧
  (∀ t, t < i → t < n → ¬ st_mk (K t) → y t = x t) ∧
  (∀ t, i ≤ t → t < n → ¬ K t = 0 → st_rest K t → ∀ b, (y t).testBit b = true ↔ ∃ m, i ≤ m ∧ m < n ∧ un_xt K n m = t ∧ (un_xo K A C m (x m)).testBit b = true) ∧
  (∀ t, t < n → K t = 0 → y t = un_w0 K A t) ∧ (∀ t, i ≤ t → t < n → K t = 0 → x t = 0) ∧
  (∀ m, i ≤ m → m < n → ¬ x m = 0 → ∀ b, b ∈ st_s K m → b < i) ∧
  (∀ t, t < n → ∀ c, c ∈ st_s K t → K c = 4 → ∀ b, (y t).testBit b = true → (y c).testBit b = true) ∧
  (∀ t, t < i → t < n → ∀ j o, un_Y K A C n t (y t) j o → ∀ b, o.testBit b = true → (y (st_ch K n j)).testBit b = true) ∧
  (∀ t, t < n → ¬ st_rest K t → y t = 0)
theorem un_0f {w : Nat} (h : w = 0) {b : Nat} (hb : w.testBit b = true) : False := by
  rw [h, Nat.zero_testBit] at hb; cases hb
theorem un_I0 {K A C : Nat → Int32} {n : Nat} (F : st_F K n) (P : un_Pm K A n) : un_I K A C n 0 (un_tx K A C n 0) (un_ty K A C n 0) := by
  have y0 : ∀ t, ¬ K t = 0 → un_w0 K A t = 0 := fun t h => by unfold un_w0; rw [if_neg h]
  refine ⟨fun t ht => ⟨by show 0 < 128; decide, (un_w0_ok P ht).1, Or.inl rfl, (un_w0_ok P ht).2⟩, fun t ht => by omega, fun t _ ht k0 _ b => ?_, fun t _ _ => rfl, fun t _ _ _ => rfl, fun m _ _ h => absurd rfl h, fun t ht c hc k4 b hb => ?_, fun t ht => by omega, fun t ht hr => ?_⟩
  · constructor
    · intro hb; exact (un_0f (y0 t k0) hb).elim
    · rintro ⟨m, _, _, _, hb⟩
      rw [un_q] at hb
      exact (un_0f rfl hb.1).elim
  · by_cases k0 : K t = 0
    · rw [(F t ht).mp k0] at hc; cases hc
    · exact (un_0f (y0 t k0) hb).elim
  · refine y0 t (fun k0 => hr (Or.inl (by rw [k0]; decide)))
/-- at time i a line that is no mark has the same value on both sides -/
theorem un_same {K A C : Nat → Int32} {n i : Nat} {x y : Nat → Nat} (W : st_wf K n) (I : un_I K A C n i x y) (hi : i < n) (hm : ¬ st_mk (K i)) : un_cur K A i (x i) = y i := by
  obtain ⟨I1, I2, I3, I4, I5, I6, I7, I8, I9⟩ := I
  unfold un_cur
  by_cases k0 : K i = 0
  · rw [if_pos k0, I4 i hi k0]
  · rw [if_neg k0]
    have k8 : ¬ K i = 8 := fun z => hm (by rw [z]; decide)
    have nsec : ¬ (K i = 3 ∨ st_sec (K i)) := fun z => hm (Or.inr z)
    have xt : un_xt K n i = i := by unfold un_xt; rw [if_neg nsec, st_ch_n hi hm]
    apply un_ext
    intro b
    rw [I3 i (Nat.le_refl _) hi k0 (Or.inl hm) b]
    constructor
    · intro h
      exact ⟨i, Nat.le_refl _, hi, xt, un_q.mpr ⟨h, fun z => absurd z k8⟩⟩
    · rintro ⟨m, h1, h2, h3, h4⟩
      have h4 := (un_q.mp h4).1
      by_cases e : m = i
      · rw [← e]; exact h4
      · exfalso
        have nz : ¬ x m = 0 := fun z => un_0f z h4
        have d := I6 m h1 h2 nz
        have key : ∀ j, j < n → m ≤ j → (∀ c, c ∈ st_s K j → c ∈ st_s K m) → st_ch K n j = i → False := by
          intro j hj hmj hs hc
          obtain ⟨_, r, _⟩ := ch_rng W n j hj (by omega)
          rw [hc] at r
          rcases r with r | ⟨_, r⟩
          · omega
          · have := d i (hs i r); omega
        unfold un_xt at h3
        by_cases c : K m = 3 ∨ st_sec (K m)
        · rw [if_pos c] at h3
          have n1 : ¬ K m = 1 := by rcases c with k | k | k | k | k <;> (rw [k]; decide)
          have nop : ¬ st_op (K m) := by rcases c with k | k | k | k | k <;> (rw [k]; decide)
          exact key (m + 1) (un_nx W h2 (fun z => n1 z.1)) (by omega) (fun q hq => by rw [st_oth n1 nop] at hq; exact hq) h3
        · rw [if_neg c] at h3
          exact key m h2 (Nat.le_refl _) (fun q hq => hq) h3
/-- lines up to i keep Y's value -/
theorem un_keep {K A C : Nat → Int32} {n i t : Nat} {x : Nat → Nat} (W : st_wf K n) (I : un_I K A C n i x (un_ty K A C n i)) (hi : i < n) (ht : t ≤ i) : un_ty K A C n (i + 1) t = un_ty K A C n i t := by
  obtain ⟨I1, I2, I3, I4, I5, I6, I7, I8, I9⟩ := I
  apply un_ext
  intro b
  rw [un_ty_s]
  constructor
  · rintro ⟨_, h | ⟨j, o, hY, hc, hb⟩⟩
    · exact h
    · obtain ⟨r1, r2, r3, r4, r5⟩ := un_Y_rng W hi hY
      obtain ⟨_, q, _⟩ := ch_rng W n j r1 (by omega)
      rw [hc] at q
      rcases q with q | ⟨q1, q2⟩
      · omega
      · rcases r3 t q2 with z | z
        · rw [z]; exact r5 b hb
        · exact I7 i hi t z q1 b (r5 b hb)
  · intro h
    exact ⟨un_t7 (I1 t (by omega)).2.1 h, Or.inl h⟩
theorem un_IS {K A C : Nat → Int32} {n i : Nat} (W : st_wf K n) (P : un_Pm K A n) (hi : i < n) (I : un_I K A C n i (un_tx K A C n i) (un_ty K A C n i)) : un_I K A C n (i + 1) (un_tx K A C n (i + 1)) (un_ty K A C n (i + 1)) := by
  have same := fun hm => un_same W I hi hm
  have keep := fun t ht => un_keep (t := t) W I hi ht
  obtain ⟨n60, Z, F, W3, W4, W5⟩ := id W
  obtain ⟨I1, I2, I3, I4, I5, I6, I7, I8, I9⟩ := I
  have cur1 : un_cur K A i (un_tx K A C n i i) < 128 ∧ (un_cur K A i (un_tx K A C n i i) = 0 ∨ (un_cur K A i (un_tx K A C n i i)).testBit 6 = true) := by
    unfold un_cur
    split
    · exact un_w0_ok P hi
    · exact ⟨(I1 i hi).1, (I1 i hi).2.2.1⟩
  have xlow : ∀ t, t < i → t < n → un_tx K A C n (i + 1) t = un_tx K A C n i t := by
    intro t ht htn
    apply un_ext
    intro b
    rw [un_tx_s, if_neg (by omega)]
    constructor
    · rintro ⟨_, h | ⟨o, hX, hb⟩⟩
      · exact h
      · have := (un_X_rng W hi hX).2.1; omega
    · intro h; exact ⟨un_t7 (I1 t htn).1 h, Or.inl h⟩
  have xat : un_tx K A C n (i + 1) i = un_cur K A i (un_tx K A C n i i) := by
    apply un_ext
    intro b
    rw [un_tx_s, if_pos rfl]
    constructor
    · rintro ⟨_, h | ⟨o, hX, hb⟩⟩
      · exact h
      · have := (un_X_rng W hi hX).2.1; omega
    · intro h; exact ⟨un_t7 cur1.1 h, Or.inl h⟩
  have mono : ∀ t b, t < n → (un_ty K A C n i t).testBit b = true → (un_ty K A C n (i + 1) t).testBit b = true := fun t b ht h => un_ty_s.mpr ⟨un_t7 (I1 t ht).2.1 h, Or.inl h⟩
  -- Y's edges from a mark carry nothing
  have ymark : st_mk (K i) → ∀ j o, un_Y K A C n i (un_ty K A C n i i) j o → ∀ b, o.testBit b = true → False := by
    intro hm j o hY b hb
    obtain ⟨r1, r2, r3, r4, r5⟩ := un_Y_rng W hi hY
    by_cases k1 : K i = 1
    · rcases hY with ⟨k, _⟩ | ⟨k, _⟩ | ⟨a1, _⟩
      · rw [k1] at k; exact absurd k (by decide)
      · rw [k1] at k; exact absurd k (by decide)
      · exact a1 k1
    · refine un_0f (I9 i hi ?_) (r5 b hb)
      rintro (h | ⟨h, _⟩)
      · exact h hm
      · exact k1 h
  refine ⟨fun t ht => ⟨un_tx_lt, un_ty_lt, ?_, ?_⟩, fun t ht htn hm => ?_, fun t hit ht k0 hr b => ?_, fun t ht k0 => ?_, fun t hit ht k0 => ?_, fun m him hm hz c hc => ?_, fun t ht c hc k4 b hb => ?_, fun t hti ht j o hY b hb => ?_, fun t ht hr => ?_⟩
  · -- x keeps the sixth bit
    by_cases z : un_tx K A C n (i + 1) t = 0
    · exact Or.inl z
    · refine Or.inr (un_tx_s.mpr ⟨by decide, ?_⟩)
      have : ∃ b, (un_tx K A C n (i + 1) t).testBit b = true := Nat.exists_testBit_of_ne_zero z
      obtain ⟨b, hb⟩ := this
      rcases (un_tx_s.mp hb).2 with h | ⟨o, hX, hb⟩
      · refine Or.inl ?_
        by_cases e : t = i
        · rw [if_pos e] at h ⊢
          exact cur1.2.elim (fun w => (un_0f w h).elim) id
        · rw [if_neg e] at h ⊢
          exact (I1 t ht).2.2.1.elim (fun w => (un_0f w h).elim) id
      · refine Or.inr ⟨o, hX, ?_⟩
        obtain ⟨_, _, _, _, r5, r6⟩ := un_X_rng W hi hX
        rw [r6]
        exact un_o6 (cur1.2.elim (fun w => (un_0f w (r5 b hb)).elim) id)
  · by_cases z : un_ty K A C n (i + 1) t = 0
    · exact Or.inl z
    · refine Or.inr (un_ty_s.mpr ⟨by decide, ?_⟩)
      have : ∃ b, (un_ty K A C n (i + 1) t).testBit b = true := Nat.exists_testBit_of_ne_zero z
      obtain ⟨b, hb⟩ := this
      rcases (un_ty_s.mp hb).2 with h | ⟨j, o, hY, hc, hb⟩
      · exact Or.inl ((I1 t ht).2.2.2.elim (fun w => (un_0f w h).elim) id)
      · refine Or.inr ⟨j, o, hY, hc, ?_⟩
        have r5 := (un_Y_rng W hi hY).2.2.2.2
        have y6 : (un_ty K A C n i i).testBit 6 = true := (I1 i hi).2.2.2.elim (fun w => (un_0f w (r5 b hb)).elim) id
        rcases hY with ⟨k, _, ho⟩ | ⟨k, q, _, _, _, ho⟩ | ⟨_, _, _, _, _, _, ho⟩
        · rw [ho]; exact un_o6 y6
        · rw [ho]
          split
          · exact un_o6 (un_o6 y6)
          · exact un_o6 y6
        · rw [ho]; exact un_o6 y6
  · by_cases e : t = i
    · subst e
      rw [keep t (Nat.le_refl _), xat]
      exact (same hm).symm
    · rw [keep t (by omega), xlow t (by omega) htn]
      exact I2 t (by omega) htn hm
  · have split : (∃ m, i + 1 ≤ m ∧ m < n ∧ un_xt K n m = t ∧ (un_xo K A C m (un_tx K A C n (i + 1) m)).testBit b = true) ↔
        (∃ m, i + 1 ≤ m ∧ m < n ∧ un_xt K n m = t ∧ (un_xo K A C m (un_tx K A C n i m)).testBit b = true) ∨
        (∃ m o, m < n ∧ un_X K A C n i (un_cur K A i (un_tx K A C n i i)) m o ∧ un_xt K n m = t ∧ (un_xo K A C m o).testBit b = true) := by
      constructor
      · rintro ⟨m, h1, h2, h3, h4⟩
        obtain ⟨h5, h6⟩ := un_q.mp h4
        obtain ⟨_, h7⟩ := un_tx_s.mp h5
        rw [if_neg (by omega)] at h7
        rcases h7 with h7 | ⟨o, h7, h8⟩
        · exact Or.inl ⟨m, h1, h2, h3, un_q.mpr ⟨h7, h6⟩⟩
        · exact Or.inr ⟨m, o, h2, h7, h3, un_q.mpr ⟨h8, h6⟩⟩
      · rintro (⟨m, h1, h2, h3, h4⟩ | ⟨m, o, h2, hX, h3, h4⟩)
        · obtain ⟨h5, h6⟩ := un_q.mp h4
          refine ⟨m, h1, h2, h3, un_q.mpr ⟨un_tx_s.mpr ⟨un_t7 (I1 m h2).1 h5, Or.inl ?_⟩, h6⟩⟩
          rw [if_neg (by omega)]; exact h5
        · obtain ⟨h5, h6⟩ := un_q.mp h4
          obtain ⟨r1, r2, r3, r4, r5, r6⟩ := un_X_rng W hi hX
          exact ⟨m, by omega, h2, h3, un_q.mpr ⟨un_tx_s.mpr ⟨un_t7 cur1.1 (r5 b h5), Or.inr ⟨o, hX, h5⟩⟩, h6⟩⟩
    have old := I3 t (by omega) ht k0 hr b
    rw [split, un_ty_s]
    by_cases hm : st_mk (K i)
    · have cx : un_cur K A i (un_tx K A C n i i) = un_tx K A C n i i := by unfold un_cur; rw [if_neg (fun z => by rw [z] at hm; exact absurd hm (by decide))]
      rw [un_mark W hi hm cur1.1 (by omega), cx]
      constructor
      · rintro ⟨_, h | ⟨j, o, hY, hc, hb⟩⟩
        · obtain ⟨m, h1, h2, h3, h4⟩ := old.mp h
          by_cases e : m = i
          · subst e; exact Or.inr ⟨h3, h4⟩
          · exact Or.inl ⟨m, by omega, h2, h3, h4⟩
        · exact (ymark hm j o hY b hb).elim
      · intro h
        have h' : (un_ty K A C n i t).testBit b = true := by
          refine old.mpr ?_
          rcases h with ⟨m, h1, h2, h3, h4⟩ | ⟨h3, h4⟩
          · exact ⟨m, by omega, h2, h3, h4⟩
          · exact ⟨i, Nat.le_refl _, hi, h3, h4⟩
        exact ⟨un_t7 (I1 t ht).2.1 h', Or.inl h'⟩
    · rw [un_sim W hi hm, same hm]
      have xti : un_xt K n i = i := by unfold un_xt; rw [if_neg (fun z => hm (Or.inr z)), st_ch_n hi hm]
      constructor
      · rintro ⟨_, h | h⟩
        · obtain ⟨m, h1, h2, h3, h4⟩ := old.mp h
          by_cases e : m = i
          · rw [e, xti] at h3; omega
          · exact Or.inl ⟨m, by omega, h2, h3, h4⟩
        · exact Or.inr h
      · rintro (⟨m, h1, h2, h3, h4⟩ | h)
        · have h' := old.mpr ⟨m, by omega, h2, h3, h4⟩
          exact ⟨un_t7 (I1 t ht).2.1 h', Or.inl h'⟩
        · obtain ⟨j, o, hY, hc, hb⟩ := h
          exact ⟨un_t7 (I1 i hi).2.1 ((un_Y_rng W hi hY).2.2.2.2 b hb), Or.inr ⟨j, o, hY, hc, hb⟩⟩
  · -- FUNC lines are entered from nowhere
    rw [← I4 t ht k0]
    apply un_ext
    intro b
    rw [un_ty_s]
    constructor
    · rintro ⟨_, h | ⟨j, o, hY, hc, hb⟩⟩
      · exact h
      · obtain ⟨r1, r2, r3, r4, r5⟩ := un_Y_rng W hi hY
        obtain ⟨_, _, q⟩ := ch_rng W n j r1 (by omega)
        have := q r4
        rw [hc] at this
        exact absurd ((F t ht).mp k0) this
    · intro h; exact ⟨un_t7 (I1 t ht).2.1 h, Or.inl h⟩
  · apply un_ext
    intro b
    rw [un_tx_s, if_neg (by omega), I5 t (by omega) ht k0]
    constructor
    · rintro ⟨_, h | ⟨o, hX, hb⟩⟩
      · exact h
      · exact absurd ((F t ht).mp k0) (un_X_rng W hi hX).2.2.2.1
    · intro h; exact (un_0f rfl h).elim
  · obtain ⟨b, hb⟩ := Nat.exists_testBit_of_ne_zero hz
    rcases (un_tx_s.mp hb).2 with h | ⟨o, hX, _⟩
    · rw [if_neg (by omega)] at h
      have := I6 m (by omega) hm (fun w => un_0f w h) c hc
      omega
    · rcases (un_X_rng W hi hX).2.2.1 c hc with z | z
      · omega
      · have := (st_lt z).1; omega
  · have hcn : c < n := by have := (st_lt hc).1; omega
    rcases (un_ty_s.mp hb).2 with h | ⟨j, o, hY, hcj, hb⟩
    · exact mono c b hcn (I7 t ht c hc k4 b h)
    · obtain ⟨r1, r2, r3, r4, r5⟩ := un_Y_rng W hi hY
      obtain ⟨q, _, _⟩ := ch_rng W n j r1 (by omega)
      rw [hcj] at q
      rcases r3 c (q c hc) with z | z
      · rw [z]; exact mono i b hi (r5 b hb)
      · exact mono c b hcn (I7 i hi c z k4 b (r5 b hb))
  · rw [keep t (by omega)] at hY
    obtain ⟨r1, r2, r3, r4, r5⟩ := un_Y_rng W ht hY
    have cn := (st_ch_ok W n j r1 (by omega)).1
    by_cases e : t = i
    · subst e
      exact un_ty_s.mpr ⟨un_t7 (I1 t ht).2.1 (r5 b hb), Or.inr ⟨j, o, hY, rfl, hb⟩⟩
    · exact mono _ b cn (I8 t (by omega) ht j o hY b hb)
  · apply un_ext
    intro b
    rw [un_ty_s, I9 t ht hr]
    constructor
    · rintro ⟨_, h | ⟨j, o, hY, hc, hb⟩⟩
      · exact h
      · obtain ⟨r1, _⟩ := un_Y_rng W hi hY
        have := (st_ch_ok W n j r1 (by omega)).2
        rw [hc] at this
        exact absurd this hr
    · intro h; exact (un_0f rfl h).elim
theorem un_Iall {K A C : Nat → Int32} {n : Nat} (W : st_wf K n) (P : un_Pm K A n) : ∀ i, i ≤ n → un_I K A C n i (un_tx K A C n i) (un_ty K A C n i) := by
  intro i
  induction i with
  | zero => intro _; exact un_I0 W.2.2.1 P
  | succ i ih => intro h; exact un_IS W P (by omega) (ih (by omega))
theorem un_fin {K A C : Nat → Int32} {n : Nat} (W : st_wf K n) (P : un_Pm K A n) {t : Nat} : ∀ i, t ≤ i → i ≤ n → un_ty K A C n i t = un_ty K A C n t t := by
  intro i
  induction i with
  | zero => intro h _; rw [show t = 0 by omega]
  | succ i ih =>
    intro h hn
    by_cases e : t = i + 1
    · rw [e]
    · rw [un_keep W (un_Iall W P i (by omega)) (by omega) (by omega)]
      exact ih (by omega) (by omega)
