/-! time passes -/
theorem lN_ti {n : Nat} (h : n < 2 ^ 63) : (lN n).toInt = (n : Int) := lg_ofNat_toInt h
theorem lN_nl {n : Nat} (h : n < 2 ^ 63) : ¬ lN n < 0 := by
  rw [Int64.lt_iff_toInt_lt, lN_ti h]
  show ¬ (n : Int) < 0
  omega
theorem lN_n1 {n : Nat} (h : n < 2 ^ 63) : ¬ lN n = -1 := by
  rw [← Int64.toInt_inj, lN_ti h]
  show ¬ (n : Int) = -1
  omega
def pt_e (wu : Nat → Int64) : Nat → Int64
  | 0 => -1
  | i + 1 => if wu i = -1 then pt_e wu i else if pt_e wu i = -1 then wu i else if pt_e wu i ≤ wu i then pt_e wu i else wu i
theorem pt_ok {wu : Nat → Int64} {M S : Nat} (h : ∀ g, g < S → wu g = -1 ∨ ∃ s, s ≤ M ∧ wu g = lN s) : ∀ i, i ≤ S → pt_e wu i = -1 ∨ ∃ s, s ≤ M ∧ pt_e wu i = lN s := by
  intro i
  induction i with
  | zero => intro _; exact Or.inl rfl
  | succ i ih =>
    intro hi
    have a := ih (by omega)
    have b := h i (by omega)
    show (if wu i = -1 then pt_e wu i else if pt_e wu i = -1 then wu i else if pt_e wu i ≤ wu i then pt_e wu i else wu i) = -1 ∨ ∃ s, s ≤ M ∧ (if wu i = -1 then pt_e wu i else if pt_e wu i = -1 then wu i else if pt_e wu i ≤ wu i then pt_e wu i else wu i) = lN s
    by_cases c1 : wu i = -1
    · rw [if_pos c1]; exact a
    · rw [if_neg c1]
      by_cases c2 : pt_e wu i = -1
      · rw [if_pos c2]; exact b
      · rw [if_neg c2]
        by_cases c3 : pt_e wu i ≤ wu i
        · rw [if_pos c3]; exact a
        · rw [if_neg c3]; exact b
theorem xp_6 {post : SX → Prop} {u : SX} {S : Nat} (hS : S ≤ 12) (eS : xa_goroutineCount u = nI S) (h1 : pt_e (xa_waitUntil u) S = -1 → post u) (h2 : ¬ pt_e (xa_waitUntil u) S = -1 → ∃ m, cx_passTime_75 post (pt_e (xa_waitUntil u) S) m 0 (xs_time u (pt_e (xa_waitUntil u) S))) :
    ∀ d i, i + d = S → ∀ m, d < m → cx_passTime_6 post u m (pt_e (xa_waitUntil u) i) (nI i) := by
  intro d
  induction d with
  | zero =>
    intro i hi m hm
    obtain ⟨m, rfl⟩ : ∃ q, m = q + 1 := ⟨m - 1, by omega⟩
    have : i = S := by omega
    subst this
    rw [ux_passTime_6, eS]
    exact br_t (nI_le (Nat.le_refl _) (by omega)) (br_c h1 h2)
  | succ d ih =>
    intro i hi m hm
    obtain ⟨m, rfl⟩ : ∃ q, m = q + 1 := ⟨m - 1, by omega⟩
    have vi : vp_in (nI i) 12 := vp_in_nI (by omega) (by decide)
    have nx := ih (i + 1) (by omega) m (by omega)
    have e : pt_e (xa_waitUntil u) (i + 1) = if xa_waitUntil u i = -1 then pt_e (xa_waitUntil u) i else if pt_e (xa_waitUntil u) i = -1 then xa_waitUntil u i else if pt_e (xa_waitUntil u) i ≤ xa_waitUntil u i then pt_e (xa_waitUntil u) i else xa_waitUntil u i := rfl
    rw [e] at nx
    rw [ux_passTime_6, eS, nI_clamp (show i < 2 ^ 31 by omega)]
    refine br_f (nI_ge (by omega) (by omega)) ⟨vi, br_c (fun c => nm_r (nI_1 _) ?_) (fun c => br_c (fun c2 => ⟨vi, nm_e (nm_r (nI_1 _) ?_)⟩) (fun c2 => ⟨vi, br_c (fun c3 => nm_r (nI_1 _) ?_) (fun c3 => ⟨vi, nm_e (nm_r (nI_1 _) ?_)⟩)⟩))⟩
    · rw [if_pos c] at nx; exact nx
    · rw [if_neg c, if_pos c2] at nx; exact nx
    · rw [if_neg c, if_neg c2, if_pos c3] at nx; exact nx
    · rw [if_neg c, if_neg c2, if_neg c3] at nx; exact nx
/-- what both sides know of the waits -/
def pt_R (wu : Nat → Int64) (v : SY) (M S : Nat) : Prop := (∀ g, g < S → (ya_status v g = 2 ∧ ya_until v g = wu g ∧ (wu g = -1 ∨ ∃ s, s ≤ M ∧ wu g = lN s)) ∨ (¬ ya_status v g = 2 ∧ wu g = -1)) ∧ ∀ g, S ≤ g → g < 12 → ¬ ya_status v g = 2
theorem pt_Rok {wu : Nat → Int64} {v : SY} {M S : Nat} (h : pt_R wu v M S) : ∀ g, g < S → wu g = -1 ∨ ∃ s, s ≤ M ∧ wu g = lN s := fun g hg => by
  rcases h.1 g hg with ⟨_, _, z⟩ | ⟨_, z⟩
  · exact z
  · exact Or.inl z
theorem yp_6 {post : SY → Prop} {v : SY} {wu : Nat → Int64} {M S : Nat} (hS : S ≤ 12) (hM : M < 2 ^ 63) (R : pt_R wu v M S) (h1 : pt_e wu S = -1 → post v) (h2 : ¬ pt_e wu S = -1 → ∃ m, cy_passTime_77 post (pt_e wu S) m 0 (ys_clock v (pt_e wu S))) :
    ∀ d i, i + d = 12 → ∀ m, d < m → cy_passTime_6 post v m (pt_e wu (if i ≤ S then i else S)) (nI i) := by
  have neg : ∀ i, i ≤ S → (pt_e wu i < 0 ↔ pt_e wu i = -1) := by
    intro i hi
    rcases pt_ok (pt_Rok R) i hi with z | ⟨s, s1, z⟩
    · rw [z]; decide
    · rw [z]
      exact ⟨fun q => absurd q (lN_nl (by omega)), fun q => absurd q (lN_n1 (by omega))⟩
  intro d
  induction d with
  | zero =>
    intro i hi m hm
    obtain ⟨m, rfl⟩ : ∃ q, m = q + 1 := ⟨m - 1, by omega⟩
    have : i = 12 := by omega
    subst this
    have e : (if 12 ≤ S then 12 else S) = S := by
      by_cases c : 12 ≤ S
      · rw [if_pos c]; omega
      · rw [if_neg c]
    rw [uy_passTime_6, e]
    refine br_t (by decide) (br_c (fun z => h2 (fun q => ?_)) (fun z => h1 ?_))
    · rw [q] at z; exact absurd z (by decide)
    · have := (neg S (Nat.le_refl _)).mp
      rcases pt_ok (pt_Rok R) S (Nat.le_refl _) with y | ⟨s, s1, y⟩
      · exact y
      · exfalso
        apply z
        rw [y, Int64.le_iff_toInt_le, lN_ti (by omega)]
        show (0 : Int) ≤ (s : Int)
        omega
  | succ d ih =>
    intro i hi m hm
    obtain ⟨m, rfl⟩ : ∃ q, m = q + 1 := ⟨m - 1, by omega⟩
    have vi : vp_in (nI i) 12 := vp_in_nI (by omega) (by decide)
    have nx := ih (i + 1) (by omega) m (by omega)
    rw [uy_passTime_6, nI_clamp (show i < 2 ^ 31 by omega)]
    refine br_f (nI_ge (b := 12) (by omega) (by decide)) ⟨vi, ?_⟩
    by_cases c : i < S
    · rw [if_pos (by omega)] at nx
      rw [if_pos (by omega)]
      have e : pt_e wu (i + 1) = if wu i = -1 then pt_e wu i else if pt_e wu i = -1 then wu i else if pt_e wu i ≤ wu i then pt_e wu i else wu i := rfl
      rw [e] at nx
      rcases R.1 i c with ⟨r1, r2, r3⟩ | ⟨r1, r2⟩
      · refine br_t r1 ⟨vi, ?_⟩
        rw [r2]
        rcases r3 with r3 | ⟨s, s1, r3⟩
        · rw [if_pos r3] at nx
          exact br_t (by rw [r3]; decide) (nm_r (nI_1 _) nx)
        · have w1 : ¬ wu i = -1 := by rw [r3]; exact lN_n1 (by omega)
          have w0 : ¬ wu i < 0 := by rw [r3]; exact lN_nl (by omega)
          rw [if_neg w1] at nx
          refine br_f w0 (br_c (fun c2 => ⟨vi, nm_e (nm_r (nI_1 _) ?_)⟩) (fun c2 => ⟨vi, br_c (fun c3 => nm_r (nI_1 _) ?_) (fun c3 => ⟨vi, nm_e (nm_r (nI_1 _) ?_)⟩)⟩))
          · rw [if_pos ((neg i (by omega)).mp c2)] at nx; exact nx
          · rw [if_neg (fun z => c2 ((neg i (by omega)).mpr z)), if_pos c3] at nx; exact nx
          · rw [if_neg (fun z => c2 ((neg i (by omega)).mpr z)), if_neg c3] at nx; exact nx
      · rw [if_pos r2] at nx
        exact br_f r1 (nm_r (nI_1 _) nx)
    · have e1 : (if i ≤ S then i else S) = S := by
        by_cases c : i ≤ S
        · rw [if_pos c]; omega
        · rw [if_neg c]
      rw [if_neg (by omega)] at nx
      rw [e1]
      exact br_f (R.2 i (by omega) (by omega)) (nm_r (nI_1 _) nx)
def oI : Option Nat → Int32
  | none => -1
  | some b => nI b
def pt_b (wu : Nat → Int64) (od : Nat → Int32) (e : Int64) : Nat → Option Nat
  | 0 => none
  | i + 1 => if wu i = e then (match pt_b wu od e i with
    | none => some i
    | some b => if od b ≤ od i then some b else some i) else pt_b wu od e i
theorem pt_b0 {wu : Nat → Int64} {od : Nat → Int32} {e : Int64} {i : Nat} (h : ¬ wu i = e) : pt_b wu od e (i + 1) = pt_b wu od e i := by
  show (if _ then _ else _) = _
  rw [if_neg h]
theorem pt_b1 {wu : Nat → Int64} {od : Nat → Int32} {e : Int64} {i : Nat} (h : wu i = e) (h' : pt_b wu od e i = none) : pt_b wu od e (i + 1) = some i := by
  show (if _ then _ else _) = _
  rw [if_pos h, h']
theorem pt_b2 {wu : Nat → Int64} {od : Nat → Int32} {e : Int64} {i b : Nat} (h : wu i = e) (h' : pt_b wu od e i = some b) (c : od b ≤ od i) : pt_b wu od e (i + 1) = some b := by
  show (if _ then _ else _) = _
  rw [if_pos h, h']
  show (if _ then _ else _) = _
  rw [if_pos c]
theorem pt_b3 {wu : Nat → Int64} {od : Nat → Int32} {e : Int64} {i b : Nat} (h : wu i = e) (h' : pt_b wu od e i = some b) (c : ¬ od b ≤ od i) : pt_b wu od e (i + 1) = some i := by
  show (if _ then _ else _) = _
  rw [if_pos h, h']
  show (if _ then _ else _) = _
  rw [if_neg c]
theorem pt_bin {wu : Nat → Int64} {od : Nat → Int32} {e : Int64} : ∀ i b, pt_b wu od e i = some b → b < i ∧ wu b = e := by
  intro i
  induction i with
  | zero => intro b h; cases h
  | succ i ih =>
    intro b h
    by_cases c : wu i = e
    · cases q : pt_b wu od e i with
      | none => rw [pt_b1 c q] at h; injection h with h; subst h; exact ⟨by omega, c⟩
      | some b' =>
        by_cases o : od b' ≤ od i
        · rw [pt_b2 c q o] at h; injection h with h; subst h
          have := ih _ q
          exact ⟨by omega, this.2⟩
        · rw [pt_b3 c q o] at h; injection h with h; subst h; exact ⟨by omega, c⟩
    · rw [pt_b0 c] at h
      have := ih _ h
      exact ⟨by omega, this.2⟩
theorem xp_5 {post : Int32 → Prop} {u : SX} {S : Nat} {e : Int64} (hS : S ≤ 12) (eS : xa_goroutineCount u = nI S) (h : post (oI (pt_b (xa_waitUntil u) (xa_waitOrder u) e S))) :
    ∀ d i, i + d = S → ∀ m, d < m → cx_longestWaitingUntil_5 post e u m (oI (pt_b (xa_waitUntil u) (xa_waitOrder u) e i)) (nI i) := by
  intro d
  induction d with
  | zero =>
    intro i hi m hm
    obtain ⟨m, rfl⟩ : ∃ q, m = q + 1 := ⟨m - 1, by omega⟩
    have : i = S := by omega
    subst this
    rw [ux_longestWaitingUntil_5, eS]
    exact br_t (nI_le (Nat.le_refl _) (by omega)) h
  | succ d ih =>
    intro i hi m hm
    obtain ⟨m, rfl⟩ : ∃ q, m = q + 1 := ⟨m - 1, by omega⟩
    have vi : vp_in (nI i) 12 := vp_in_nI (by omega) (by decide)
    have nx := ih (i + 1) (by omega) m (by omega)
    rw [ux_longestWaitingUntil_5, eS, nI_clamp (show i < 2 ^ 31 by omega)]
    refine br_f (nI_ge (by omega) (by omega)) ⟨vi, br_c (fun c => ?_) (fun c => ?_)⟩
    · cases q : pt_b (xa_waitUntil u) (xa_waitOrder u) e i with
      | none =>
        rw [pt_b1 c q] at nx
        exact br_t rfl (nm_r (nI_1 _) nx)
      | some b =>
        have bi := pt_bin i b q
        refine br_f (ne_m1 (by omega)) ⟨vi, vp_in_nI (by omega) (by decide), ?_⟩
        show (xa_waitOrder u (nI b).toNatClampNeg ≤ _ → _) ∧ (¬ xa_waitOrder u (nI b).toNatClampNeg ≤ _ → _)
        rw [nI_clamp (show b < 2 ^ 31 by omega)]
        refine br_c (fun o => nm_r (nI_1 _) ?_) (fun o => nm_r (nI_1 _) ?_)
        · rw [pt_b2 c q o] at nx; exact nx
        · rw [pt_b3 c q o] at nx; exact nx
    · rw [pt_b0 c] at nx
      exact nm_r (nI_1 _) nx
theorem yp_89 {post : SY → Prop} {J : Int32 → SY → Prop} {v : SY} {wu : Nat → Int64} {M S : Nat} {e : Int64} {x3 : Int32} (hS : S ≤ 12) (R : pt_R wu v M S) (he : ¬ e = -1)
    (h0 : pt_b wu (ya_since v) e S = none → ∀ x, x = x3 + 1 → J x v) (h1 : ∀ b, pt_b wu (ya_since v) e S = some b → wpY_late (fun u8 => ∀ x, x = x3 + 1 → J x u8) v (nI b)) :
    ∀ d i, i + d = 12 → ∀ m, d < m → cy_passTime_89 post J e x3 v m (oI (pt_b wu (ya_since v) e (if i ≤ S then i else S))) (nI i) := by
  intro d
  induction d with
  | zero =>
    intro i hi m hm
    obtain ⟨m, rfl⟩ : ∃ q, m = q + 1 := ⟨m - 1, by omega⟩
    have : i = 12 := by omega
    subst this
    have e1 : (if 12 ≤ S then 12 else S) = S := by
      by_cases c : 12 ≤ S
      · rw [if_pos c]; omega
      · rw [if_neg c]
    rw [uy_passTime_89, e1]
    refine br_t (by decide) ?_
    cases q : pt_b wu (ya_since v) e S with
    | none => exact br_t (by decide) (h0 q)
    | some b =>
      have := pt_bin S b q
      exact br_f (nI_pos (by omega)) (h1 b q)
  | succ d ih =>
    intro i hi m hm
    obtain ⟨m, rfl⟩ : ∃ q, m = q + 1 := ⟨m - 1, by omega⟩
    have vi : vp_in (nI i) 12 := vp_in_nI (by omega) (by decide)
    have nx := ih (i + 1) (by omega) m (by omega)
    rw [uy_passTime_89, nI_clamp (show i < 2 ^ 31 by omega)]
    refine br_f (nI_ge (b := 12) (by omega) (by decide)) ⟨vi, ?_⟩
    by_cases c : i < S
    · rw [if_pos (by omega)] at nx
      rw [if_pos (by omega)]
      rcases R.1 i c with ⟨r1, r2, r3⟩ | ⟨r1, r2⟩
      · refine br_t r1 ⟨vi, ?_⟩
        rw [r2]
        refine br_c (fun c => ?_) (fun c => ?_)
        · cases q : pt_b wu (ya_since v) e i with
          | none =>
            rw [pt_b1 c q] at nx
            exact br_t (by decide) (nm_r (nI_1 _) nx)
          | some b =>
            have bi := pt_bin i b q
            refine br_f (nI_pos (by omega)) ⟨vi, vp_in_nI (by omega) (by decide), ?_⟩
            show (ya_since v (nI b).toNatClampNeg ≤ _ → _) ∧ (¬ ya_since v (nI b).toNatClampNeg ≤ _ → _)
            rw [nI_clamp (show b < 2 ^ 31 by omega)]
            refine br_c (fun o => nm_r (nI_1 _) ?_) (fun o => nm_r (nI_1 _) ?_)
            · rw [pt_b2 c q o] at nx; exact nx
            · rw [pt_b3 c q o] at nx; exact nx
        · rw [pt_b0 c] at nx
          exact nm_r (nI_1 _) nx
      · rw [pt_b0 (by rw [r2]; exact fun z => he z.symm)] at nx
        exact br_f r1 (nm_r (nI_1 _) nx)
    · have e1 : (if i ≤ S then i else S) = S := by
        by_cases c : i ≤ S
        · rw [if_pos c]; omega
        · rw [if_neg c]
      rw [if_neg (by omega)] at nx
      rw [e1]
      exact br_f (R.2 i (by omega) (by omega)) (nm_r (nI_1 _) nx)
