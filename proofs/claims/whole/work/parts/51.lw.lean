/-! the goroutine that waits longest for a channel -/
def lw (sw od : Nat → Int32) (w : Int32) : Nat → Option Nat
  | 0 => none
  | k + 1 => if sw k = w then (match lw sw od w k with
    | none => some k
    | some b => if od (b / 3) ≤ od (k / 3) then some b else some k) else lw sw od w k
theorem lw_0 {sw od : Nat → Int32} {w : Int32} {k : Nat} (h : ¬ sw k = w) : lw sw od w (k + 1) = lw sw od w k := by
  show (if _ then _ else _) = _
  rw [if_neg h]
theorem lw_1 {sw od : Nat → Int32} {w : Int32} {k : Nat} (h : sw k = w) (h' : lw sw od w k = none) : lw sw od w (k + 1) = some k := by
  show (if _ then _ else _) = _
  rw [if_pos h, h']
theorem lw_2 {sw od : Nat → Int32} {w : Int32} {k b : Nat} (h' : lw sw od w k = some b) (c : od (b / 3) ≤ od (k / 3)) : lw sw od w (k + 1) = some b := by
  by_cases h : sw k = w
  · show (if _ then _ else _) = _
    rw [if_pos h, h']
    show (if _ then _ else _) = _
    rw [if_pos c]
  · rw [lw_0 h]; exact h'
theorem lw_3 {sw od : Nat → Int32} {w : Int32} {k b : Nat} (h : sw k = w) (h' : lw sw od w k = some b) (c : ¬ od (b / 3) ≤ od (k / 3)) : lw sw od w (k + 1) = some k := by
  show (if _ then _ else _) = _
  rw [if_pos h, h']
  show (if _ then _ else _) = _
  rw [if_neg c]
theorem lw_in {sw od : Nat → Int32} {w : Int32} : ∀ k b, lw sw od w k = some b → b < k ∧ sw b = w := by
  intro k
  induction k with
  | zero => intro b h; cases h
  | succ k ih =>
    intro b h
    by_cases c : sw k = w
    · cases q : lw sw od w k with
      | none => rw [lw_1 c q] at h; injection h with h; subst h; exact ⟨by omega, c⟩
      | some b' =>
        by_cases o : od (b' / 3) ≤ od (k / 3)
        · rw [lw_2 q o] at h; injection h with h; subst h
          have := ih _ q
          exact ⟨by omega, this.2⟩
        · rw [lw_3 c q o] at h; injection h with h; subst h; exact ⟨by omega, c⟩
    · rw [lw_0 c] at h
      have := ih _ h
      exact ⟨by omega, this.2⟩
/-- the first slot of a goroutine with that wish -/
def fs (sw : Nat → Int32) (w : Int32) (g : Nat) : Option Nat := if sw (3 * g) = w then some 0 else if sw (3 * g + 1) = w then some 1 else if sw (3 * g + 2) = w then some 2 else none
theorem fs_some {sw : Nat → Int32} {w : Int32} {g i : Nat} (h : fs sw w g = some i) : i < 3 ∧ sw (3 * g + i) = w ∧ ∀ i', i' < i → ¬ sw (3 * g + i') = w := by
  unfold fs at h
  by_cases c0 : sw (3 * g) = w
  · rw [if_pos c0] at h; injection h with h; subst h
    exact ⟨by omega, c0, fun i' hi => by omega⟩
  · rw [if_neg c0] at h
    by_cases c1 : sw (3 * g + 1) = w
    · rw [if_pos c1] at h; injection h with h; subst h
      refine ⟨by omega, c1, fun i' hi => ?_⟩
      rw [show i' = 0 by omega]; exact c0
    · rw [if_neg c1] at h
      by_cases c2 : sw (3 * g + 2) = w
      · rw [if_pos c2] at h; injection h with h; subst h
        refine ⟨by omega, c2, fun i' hi => ?_⟩
        rcases (show i' = 0 ∨ i' = 1 by omega) with z | z <;> subst z
        · exact c0
        · exact c1
      · rw [if_neg c2] at h; cases h
theorem fs_none {sw : Nat → Int32} {w : Int32} {g : Nat} (h : fs sw w g = none) : ∀ i, i < 3 → ¬ sw (3 * g + i) = w := by
  unfold fs at h
  by_cases c0 : sw (3 * g) = w
  · rw [if_pos c0] at h; cases h
  · rw [if_neg c0] at h
    by_cases c1 : sw (3 * g + 1) = w
    · rw [if_pos c1] at h; cases h
    · rw [if_neg c1] at h
      by_cases c2 : sw (3 * g + 2) = w
      · rw [if_pos c2] at h; cases h
      · intro i hi
        rcases (show i = 0 ∨ i = 1 ∨ i = 2 by omega) with z | z | z <;> subst z
        · exact c0
        · exact c1
        · exact c2
theorem fs_no {sw : Nat → Int32} {w : Int32} {g : Nat} (h : ∀ i, i < 3 → ¬ sw (3 * g + i) = w) : fs sw w g = none := by
  cases q : fs sw w g with
  | none => rfl
  | some i => exact absurd (fs_some q).2.1 (h i (fs_some q).1)
theorem fs_is {sw : Nat → Int32} {w : Int32} {g i : Nat} (h : i < 3) (h1 : sw (3 * g + i) = w) (h2 : ∀ i', i' < i → ¬ sw (3 * g + i') = w) : fs sw w g = some i := by
  cases q : fs sw w g with
  | none => exact absurd h1 (fs_none q i h)
  | some i' =>
    obtain ⟨a, b, c⟩ := fs_some q
    rcases Nat.lt_trichotomy i' i with z | z | z
    · exact absurd b (h2 i' z)
    · rw [z]
    · exact absurd h1 (c i z)
def gb (F : Nat → Option Nat) (od : Nat → Int32) : Nat → Option Nat
  | 0 => none
  | i + 1 => match F i with
    | none => gb F od i
    | some _ => (match gb F od i with
      | none => some i
      | some b => if od b ≤ od i then some b else some i)
theorem gb_0 {F : Nat → Option Nat} {od : Nat → Int32} {i : Nat} (h : F i = none) : gb F od (i + 1) = gb F od i := by
  show (match F i with | none => _ | some _ => _) = _
  rw [h]
theorem gb_1 {F : Nat → Option Nat} {od : Nat → Int32} {i f : Nat} (h : F i = some f) (h' : gb F od i = none) : gb F od (i + 1) = some i := by
  show (match F i with | none => _ | some _ => _) = _
  rw [h, h']
theorem gb_2 {F : Nat → Option Nat} {od : Nat → Int32} {i f b : Nat} (h : F i = some f) (h' : gb F od i = some b) (c : od b ≤ od i) : gb F od (i + 1) = some b := by
  show (match F i with | none => _ | some _ => _) = _
  rw [h, h']
  show (if _ then _ else _) = _
  rw [if_pos c]
theorem gb_3 {F : Nat → Option Nat} {od : Nat → Int32} {i f b : Nat} (h : F i = some f) (h' : gb F od i = some b) (c : ¬ od b ≤ od i) : gb F od (i + 1) = some i := by
  show (match F i with | none => _ | some _ => _) = _
  rw [h, h']
  show (if _ then _ else _) = _
  rw [if_neg c]
theorem gb_in {F : Nat → Option Nat} {od : Nat → Int32} : ∀ i b, gb F od i = some b → b < i ∧ ∃ f, F b = some f := by
  intro i
  induction i with
  | zero => intro b h; cases h
  | succ i ih =>
    intro b h
    cases e : F i with
    | none =>
      rw [gb_0 e] at h
      have := ih _ h
      exact ⟨by omega, this.2⟩
    | some f =>
      cases q : gb F od i with
      | none => rw [gb_1 e q] at h; injection h with h; subst h; exact ⟨by omega, f, e⟩
      | some b' =>
        by_cases o : od b' ≤ od i
        · rw [gb_2 e q o] at h; injection h with h; subst h
          have := ih _ q
          exact ⟨by omega, this.2⟩
        · rw [gb_3 e q o] at h; injection h with h; subst h; exact ⟨by omega, f, e⟩
theorem lw_gb {sw od : Nat → Int32} {w : Int32} : ∀ i, lw sw od w (3 * i) = (gb (fs sw w) od i).map (fun b => 3 * b + (fs sw w b).getD 0) := by
  intro i
  induction i with
  | zero => rfl
  | succ i ih =>
    have d0 : ∀ r, r < 3 → (3 * i + r) / 3 = i := fun r hr => by omega
    have keep : ∀ b r, b / 3 = i → r < 3 → lw sw od w (3 * i + r) = some b → lw sw od w (3 * i + r + 1) = some b := fun b r hb hr h => lw_2 h (by rw [hb, d0 r hr]; exact Int32.le_refl _)
    have kold : ∀ b r, od (b / 3) ≤ od i → r < 3 → lw sw od w (3 * i + r) = some b → lw sw od w (3 * i + r + 1) = some b := fun b r hb hr h => lw_2 h (by rw [d0 r hr]; exact hb)
    have run : ∀ b r, (b / 3 = i ∨ od (b / 3) ≤ od i) → r < 3 → lw sw od w (3 * i + r) = some b → lw sw od w (3 * i + 3) = some b := by
      intro b r hb hr h
      have st : ∀ r, r < 3 → lw sw od w (3 * i + r) = some b → lw sw od w (3 * i + r + 1) = some b := fun r hr h => by
        rcases hb with z | z
        · exact keep b r z hr h
        · exact kold b r z hr h
      rcases (show r = 0 ∨ r = 1 ∨ r = 2 by omega) with z | z | z <;> subst z
      · exact st 2 (by omega) (st 1 (by omega) (st 0 (by omega) h))
      · exact st 2 (by omega) (st 1 (by omega) h)
      · exact st 2 (by omega) h
    have run3 : ∀ b, b / 3 = i → ∀ r, r ≤ 3 → lw sw od w (3 * i + r) = some b → lw sw od w (3 * i + 3) = some b := by
      intro b hb r hr h
      by_cases e : r = 3
      · subst e; exact h
      · exact run b r (Or.inl hb) (by omega) h
    show lw sw od w (3 * i + 3) = _
    cases e : fs sw w i with
    | none =>
      have n := fs_none e
      rw [gb_0 e, ← ih]
      have a0 : lw sw od w (3 * i + 0 + 1) = lw sw od w (3 * i + 0) := lw_0 (n 0 (by omega))
      have a1 : lw sw od w (3 * i + 1 + 1) = lw sw od w (3 * i + 1) := lw_0 (n 1 (by omega))
      have a2 : lw sw od w (3 * i + 2 + 1) = lw sw od w (3 * i + 2) := lw_0 (n 2 (by omega))
      exact a2.trans (a1.trans a0)
    | some f =>
      obtain ⟨f3, fw, fn⟩ := fs_some e
      have upto : ∀ r, r ≤ f → lw sw od w (3 * i + r) = lw sw od w (3 * i) := by
        intro r
        induction r with
        | zero => intro _; rfl
        | succ r ihr => intro hr; exact (lw_0 (fn r (by omega))).trans (ihr (by omega))
      have uf := upto f (Nat.le_refl _)
      rw [ih] at uf
      cases q : gb (fs sw w) od i with
      | none =>
        rw [q] at uf
        rw [gb_1 e q]
        have := run3 (3 * i + f) (d0 f f3) (f + 1) (by omega) (lw_1 fw uf)
        rw [this]
        show some (3 * i + f) = some (3 * i + (fs sw w i).getD 0)
        rw [e]; rfl
      | some b =>
        obtain ⟨bi, f', ef⟩ := gb_in i b q
        rw [q] at uf
        have uf : lw sw od w (3 * i + f) = some (3 * b + (fs sw w b).getD 0) := uf
        have b3 : (3 * b + (fs sw w b).getD 0) / 3 = b := by
          rw [ef]
          have := (fs_some ef).1
          show (3 * b + f') / 3 = b
          omega
        by_cases o : od b ≤ od i
        · rw [gb_2 e q o]
          exact run _ f (Or.inr (by rw [b3]; exact o)) f3 uf
        · rw [gb_3 e q o]
          have := run3 (3 * i + f) (d0 f f3) (f + 1) (by omega) (lw_3 fw uf (by rw [b3]; exact (show ¬ od b ≤ od ((3 * i + f) / 3) by rw [d0 f f3]; exact o)))
          rw [this]
          show some (3 * i + f) = some (3 * i + (fs sw w i).getD 0)
          rw [e]; rfl
theorem nI_d3 {k : Nat} (h : k < 1000) : nI k / 3 = nI (k / 3) := by
  have : ∀ k, k < 1000 → nI k / 3 = nI (k / 3) := by decide +kernel
  exact this k h
theorem xw_4 {post : Int32 → Prop} {u : SX} {S : Nat} {w : Int32} (hS : S ≤ 12) (eS : xa_goroutineCount u = nI S) (h : post (oI (lw (xa_slotWish u) (xa_waitOrder u) w (3 * S)))) :
    ∀ d k, k + d = 3 * S → ∀ m, d < m → cx_longestWaiting_4 post w u m (oI (lw (xa_slotWish u) (xa_waitOrder u) w k)) (nI k) := by
  have e3 : nI S * 3 = nI (3 * S) := by
    rw [show (3 : Int32) = nI 3 from rfl, pk_mul]; exact congrArg nI (by omega)
  intro d
  induction d with
  | zero =>
    intro k hk m hm
    obtain ⟨m, rfl⟩ : ∃ q, m = q + 1 := ⟨m - 1, by omega⟩
    have : k = 3 * S := by omega
    subst this
    rw [ux_longestWaiting_4, eS, e3]
    exact br_t (nI_le (Nat.le_refl _) (by omega)) h
  | succ d ih =>
    intro k hk m hm
    obtain ⟨m, rfl⟩ : ∃ q, m = q + 1 := ⟨m - 1, by omega⟩
    have nx := ih (k + 1) (by omega) m (by omega)
    rw [ux_longestWaiting_4, eS, e3, nI_clamp (show k < 2 ^ 31 by omega)]
    refine br_f (nI_ge (by omega) (by omega)) ⟨vp_in_nI (by omega) (by decide), br_c (fun c => ?_) (fun c => ?_)⟩
    · cases q : lw (xa_slotWish u) (xa_waitOrder u) w k with
      | none =>
        rw [lw_1 c q] at nx
        exact br_t rfl (nm_r (nI_1 _) nx)
      | some b =>
        have bi := lw_in k b q
        show (nI b = -1 → _) ∧ (¬ nI b = -1 → ¬ (3 : Int32) = 0 ∧ (vp_in (nI k / 3) 12 ∧ (¬ (3 : Int32) = 0 ∧ (vp_in (nI b / 3) 12 ∧ ((xa_waitOrder u (nI b / 3).toNatClampNeg ≤ xa_waitOrder u (nI k / 3).toNatClampNeg → _) ∧ (¬ xa_waitOrder u (nI b / 3).toNatClampNeg ≤ xa_waitOrder u (nI k / 3).toNatClampNeg → _))))))
        rw [nI_d3 (show k < 1000 by omega), nI_d3 (show b < 1000 by omega), nI_clamp (show b / 3 < 2 ^ 31 by omega), nI_clamp (show k / 3 < 2 ^ 31 by omega)]
        refine br_f (ne_m1 (by omega)) ⟨by decide, vp_in_nI (by omega) (by decide), by decide, vp_in_nI (by omega) (by decide), br_c (fun o => nm_r (nI_1 _) ?_) (fun o => nm_r (nI_1 _) ?_)⟩
        · rw [lw_2 q o] at nx; exact nx
        · rw [lw_3 c q o] at nx; exact nx
    · rw [lw_0 c] at nx
      exact nm_r (nI_1 _) nx
/-- X's answer: the slot -/
def sI (F : Nat → Option Nat) : Option Nat → Int32
  | none => -1
  | some b => nI (3 * b + (F b).getD 0)
theorem xl_long {post : Int32 → Prop} {u : SX} {S : Nat} {w : Int32} (hS : S ≤ 12) (eS : xa_goroutineCount u = nI S) (h : post (sI (fs (xa_slotWish u) w) (gb (fs (xa_slotWish u) w) (xa_waitOrder u) S))) : wpX_longestWaiting post u w := by
  rw [ux_longestWaiting]
  have e : oI (lw (xa_slotWish u) (xa_waitOrder u) w (3 * S)) = sI (fs (xa_slotWish u) w) (gb (fs (xa_slotWish u) w) (xa_waitOrder u) S) := by
    rw [lw_gb]
    cases gb (fs (xa_slotWish u) w) (xa_waitOrder u) S with
    | none => rfl
    | some b => rfl
  exact ⟨3 * S + 1, xw_4 hS eS (by rw [e]; exact h) (3 * S) 0 (by omega) (3 * S + 1) (by omega)⟩
/-- Y's scan, given what its waitLine answers -/
theorem yl_long {post : Int32 → Prop} {v : SY} {F : Nat → Option Nat} {S : Nat} {ch sn : Int32} (hS : S ≤ 12)
    (hw : ∀ g, g < 12 → ∀ Q : Int32 → Prop, (∀ r, ¬ r < 0 → (g < S ∧ ∃ f, F g = some f) → Q r) → ((S ≤ g ∨ F g = none) → Q (-1)) → wpY_waitLine Q v (nI g) ch sn) (h : post (oI (gb F (ya_since v) S))) : wpY_longest post v ch sn := by
  have key : ∀ d i, i + d = 12 → ∀ m, d < m → cy_longest_5 post ch sn v m (oI (gb F (ya_since v) (if i ≤ S then i else S))) (nI i) := by
    intro d
    induction d with
    | zero =>
      intro i hi m hm
      obtain ⟨m, rfl⟩ : ∃ q, m = q + 1 := ⟨m - 1, by omega⟩
      have : i = 12 := by omega
      subst this
      have e1 : (if 12 ≤ S then 12 else S) = S := by
        by_cases c : 12 ≤ S
        · rw [if_pos c]; omega
        · rw [if_neg c]
      rw [uy_longest_5, e1]
      exact br_t (by decide) h
    | succ d ih =>
      intro i hi m hm
      obtain ⟨m, rfl⟩ : ∃ q, m = q + 1 := ⟨m - 1, by omega⟩
      have nx := ih (i + 1) (by omega) m (by omega)
      have vi : vp_in (nI i) 12 := vp_in_nI (by omega) (by decide)
      rw [uy_longest_5]
      refine br_f (nI_ge (b := 12) (by omega) (by decide)) (hw i (by omega) _ (fun r hr c => br_f hr ?_) (fun c => br_t (by decide) ?_))
      · obtain ⟨c, f, ef⟩ := c
        rw [if_pos (by omega)] at nx
        rw [if_pos (by omega)]
        cases q : gb F (ya_since v) i with
        | none =>
          rw [gb_1 ef q] at nx
          exact br_t (by decide) (nm_r (nI_1 _) nx)
        | some b =>
          have bi := gb_in i b q
          refine br_f (nI_pos (by omega)) ⟨vi, vp_in_nI (by omega) (by decide), ?_⟩
          show (ya_since v (nI b).toNatClampNeg ≤ ya_since v (nI i).toNatClampNeg → _) ∧ (¬ ya_since v (nI b).toNatClampNeg ≤ ya_since v (nI i).toNatClampNeg → _)
          rw [nI_clamp (show b < 2 ^ 31 by omega), nI_clamp (show i < 2 ^ 31 by omega)]
          refine br_c (fun o => nm_r (nI_1 _) ?_) (fun o => nm_r (nI_1 _) ?_)
          · rw [gb_2 ef q o] at nx; exact nx
          · rw [gb_3 ef q o] at nx; exact nx
      · refine nm_r (nI_1 _) ?_
        by_cases c2 : i < S
        · rcases c with c | c
          · omega
          · rw [if_pos (by omega), gb_0 c] at nx
            rw [if_pos (by omega)]
            exact nx
        · have e1 : (if i ≤ S then i else S) = S := by
            by_cases c : i ≤ S
            · rw [if_pos c]; omega
            · rw [if_neg c]
          rw [if_neg (by omega)] at nx
          rw [e1]; exact nx
  rw [uy_longest]
  have k0 := key 12 0 (by omega) 13 (by omega)
  rw [if_pos (Nat.zero_le _)] at k0
  exact ⟨13, k0⟩
