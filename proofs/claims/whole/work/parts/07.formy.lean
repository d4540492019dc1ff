/-! Y: the loop of the form -/
def st_pe (k : Int32) : Bool := k == 3
theorem st_pe_iff {k : Int32} : st_pe k = true ↔ k = 3 := by simp [st_pe]
theorem xn_el {K : Nat → Int32} {o : Nat} : ∀ i, st_n K st_pe o i = 0 ↔ ¬ st_el K o i := by
  intro i
  induction i with
  | zero => exact ⟨fun _ z => by obtain ⟨j, a, _⟩ := z; omega, fun _ => rfl⟩
  | succ i ih =>
    rw [xn_cnt]
    by_cases c : (st_s K i).head? = some o ∧ st_pe (K i) = true
    · rw [if_pos c]
      exact ⟨fun z => by omega, fun z => absurd ⟨i, Nat.lt_succ_self i, st_pe_iff.mp c.2, c.1⟩ z⟩
    · rw [if_neg c, Nat.add_zero, ih]
      exact ⟨fun z => st_el_s z (fun w => c ⟨w.2, st_pe_iff.mpr w.1⟩), fun z w => by obtain ⟨j, a, b⟩ := w; exact z ⟨j, by omega, b⟩⟩
def fm_sv (c a : Nat) : Nat := if c + a = 0 then 0 else 1 + c + 8 * a
def fm_seen (K : Nat → Int32) (b i : Nat) : Nat := if K b = 2 then st_n K st_pe b i else if K b = 6 then fm_sv (st_n K st_pc b i) (st_n K st_pa b i) else 0
theorem fm_bnd {K : Nat → Int32} {o : Nat} : ∀ i, (∀ j, j < i → fm_ok K j) → st_n K st_pc o i ≤ 3 ∧ st_n K st_pa o i ≤ 1 ∧ st_n K st_pe o i ≤ 1 := by
  intro i
  induction i with
  | zero => intro _; exact ⟨Nat.zero_le _, Nat.zero_le _, Nat.zero_le _⟩
  | succ i ih =>
    intro h
    obtain ⟨a, b, c⟩ := ih (fun j hj => h j (by omega))
    have ok := h i (Nat.lt_succ_self i)
    rw [xn_cnt, xn_cnt, xn_cnt]
    by_cases hh : (st_s K i).head? = some o
    · cases e : st_s K i with
      | nil => rw [e] at hh; cases hh
      | cons x t =>
        rw [e] at hh
        have hx : x = o := by simpa using hh
        subst hx
        rw [fm_cons e] at ok
        obtain ⟨k0, ok⟩ := ok
        refine ⟨?_, ?_, ?_⟩
        · by_cases q : st_pc (K i) = true
          · have s : st_sec (K i) := sec_or.mpr (Or.inl q)
            rcases ok with w | w | w
            · rw [w] at s; exact absurd s (by decide)
            · have := w.2.2.1 q; split <;> omega
            · exact absurd s w.2.1
          · rw [if_neg (fun z => q z.2)]; omega
        · by_cases q : st_pa (K i) = true
          · have s : st_sec (K i) := sec_or.mpr (Or.inr q)
            rcases ok with w | w | w
            · rw [w] at s; exact absurd s (by decide)
            · have := w.2.2.2 (by rw [st_pa_iff] at q; rcases q with q | q <;> (rw [q]; rfl)); split <;> omega
            · exact absurd s w.2.1
          · rw [if_neg (fun z => q z.2)]; omega
        · by_cases q : st_pe (K i) = true
          · have q3 := st_pe_iff.mp q
            rcases ok with w | w | w
            · rw [q3] at w; exact absurd w (by decide)
            · rw [q3] at w; exact absurd w.1 (by decide)
            · have := (xn_el i).mpr (w.2.2.2.1 q3).2
              split <;> omega
          · rw [if_neg (fun z => q z.2)]; omega
    · rw [if_neg (fun z => hh z.1), if_neg (fun z => hh z.1), if_neg (fun z => hh z.1)]
      exact ⟨a, b, c⟩
theorem fm_seen_le {K : Nat → Int32} {o i : Nat} (h : ∀ j, j < i → fm_ok K j) : fm_seen K o i ≤ 12 := by
  obtain ⟨a, b, c⟩ := fm_bnd (o := o) i h
  unfold fm_seen fm_sv
  split
  · omega
  · split
    · split <;> omega
    · omega
theorem fm_seen_s {K : Nat → Int32} {b i : Nat} (h : ¬ ((st_s K i).head? = some b ∧ (K i = 3 ∨ st_sec (K i)))) : fm_seen K b (i + 1) = fm_seen K b i := by
  have e1 : st_n K st_pe b (i + 1) = st_n K st_pe b i := by rw [xn_cnt, if_neg (fun z => h ⟨z.1, Or.inl (st_pe_iff.mp z.2)⟩)]; rfl
  have e2 : st_n K st_pc b (i + 1) = st_n K st_pc b i := by rw [xn_cnt, if_neg (fun z => h ⟨z.1, Or.inr (sec_or.mpr (Or.inl z.2))⟩)]; rfl
  have e3 : st_n K st_pa b (i + 1) = st_n K st_pa b i := by rw [xn_cnt, if_neg (fun z => h ⟨z.1, Or.inr (sec_or.mpr (Or.inr z.2))⟩)]; rfl
  unfold fm_seen
  rw [e1, e2, e3]
theorem fm_seen_0 {K : Nat → Int32} {i : Nat} : fm_seen K i (i + 1) = 0 := by
  unfold fm_seen
  rw [xn_0 (i + 1) (Nat.le_refl _), xn_0 (i + 1) (Nat.le_refl _), xn_0 (i + 1) (Nat.le_refl _)]
  unfold fm_sv
  split
  · rfl
  · split <;> rfl
theorem fs_and : ∀ c, c < 4 → ∀ a, a < 2 → ((nI (fm_sv c a) &&& 7) ≤ 3 ↔ c < 3) := by decide
theorem fs_lt : ∀ c, c < 4 → ∀ a, a < 2 → (nI (fm_sv c a) < 8 ↔ a < 1) := by decide
theorem fs_0 : ∀ c, c < 4 → ∀ a, a < 2 → (nI (fm_sv c a) = 0 ↔ c + a = 0) := by decide
theorem fs_c1 : ∀ c, c < 3 → ∀ a, a < 2 → ¬ c + a = 0 → vp_nar .byte ((nI (fm_sv c a) + 1).toInt8.toInt32) = nI (fm_sv (c + 1) a) := by decide
theorem fs_a1 : ∀ c, c < 4 → ∀ a, a < 1 → ¬ c + a = 0 → vp_nar .byte ((nI (fm_sv c a) + 8).toInt8.toInt32) = nI (fm_sv c (a + 1)) := by decide
theorem nb_8 : ∀ i, i < 60 → vp_nar .byte ((nI i).toInt8.toInt32) = nI i := by decide
def fm_stk (op sn : Nat → Int32) (K : Nat → Int32) (i : Nat) : List Nat → Prop
  | [] => True
  | b :: r => op r.length = nI b ∧ sn r.length = nI (fm_seen K b i) ∧ fm_stk op sn K i r
theorem fm_stk_i {op sn K : Nat → Int32} {i : Nat} : ∀ {L : List Nat}, (∀ b, b ∈ L → fm_seen K b (i + 1) = fm_seen K b i) → fm_stk op sn K i L → fm_stk op sn K (i + 1) L := by
  intro L
  induction L with
  | nil => intro _ h; exact h
  | cons b r ih =>
    intro h hs
    exact ⟨hs.1, by rw [h b List.mem_cons_self]; exact hs.2.1, ih (fun x hx => h x (List.mem_cons_of_mem _ hx)) hs.2.2⟩
theorem fm_stk_u {op sn K : Nat → Int32} {i m : Nat} {x y : Int32} : ∀ {L : List Nat}, L.length ≤ m → fm_stk op sn K i L → fm_stk (upd op m x) (upd sn m y) K i L := by
  intro L
  induction L with
  | nil => intro _ h; exact h
  | cons b r ih =>
    intro h hs
    rw [List.length_cons] at h
    exact ⟨by rw [pk_un (by omega)]; exact hs.1, by rw [pk_un (by omega)]; exact hs.2.1, ih (by omega) hs.2.2⟩
theorem fm_stk_n {op sn K : Nat → Int32} {i m : Nat} {y : Int32} : ∀ {L : List Nat}, L.length ≤ m → fm_stk op sn K i L → fm_stk op (upd sn m y) K i L := by
  intro L
  induction L with
  | nil => intro _ h; exact h
  | cons b r ih =>
    intro h hs
    rw [List.length_cons] at h
    exact ⟨hs.1, by rw [pk_un (by omega)]; exact hs.2.1, ih (by omega) hs.2.2⟩
theorem fm_stk_1 {op sn K : Nat → Int32} {i : Nat} : ∀ {L : List Nat}, fm_stk op sn K i L → ∀ t, t < L.length → ∃ b, b ∈ L ∧ op t = nI b := by
  intro L
  induction L with
  | nil => intro _ t h; cases h
  | cons b r ih =>
    intro hs t ht
    rw [List.length_cons] at ht
    by_cases e : t = r.length
    · subst e; exact ⟨b, List.mem_cons_self, hs.1⟩
    · obtain ⟨x, a, c⟩ := ih hs.2.2 t (by omega)
      exact ⟨x, List.mem_cons_of_mem _ a, c⟩
theorem fm_stk_2 {op sn K : Nat → Int32} {i : Nat} : ∀ {L : List Nat}, fm_stk op sn K i L → ∀ b, b ∈ L → ∃ t, t < L.length ∧ op t = nI b := by
  intro L
  induction L with
  | nil => intro _ b h; cases h
  | cons x r ih =>
    intro hs b hb
    rw [List.length_cons]
    rcases List.mem_cons.mp hb with e | h
    · subst e; exact ⟨r.length, by omega, hs.1⟩
    · obtain ⟨t, a, c⟩ := ih hs.2.2 b h
      exact ⟨t, by omega, c⟩
theorem yb_loop {post : Int32 → SY → Prop} {J : Int32 → Int32 → SY → Prop} {v : SY} {S : List Nat} {i : Nat} (hi : i < 60) (hS : S.length ≤ 60) (hb : ∀ b, b ∈ S → b < 60)
    (H1 : ∀ t, t < S.length → ∃ b, b ∈ S ∧ ya_open v t = nI b) (H2 : ∀ b, b ∈ S → ∃ t, t < S.length ∧ ya_open v t = nI b)
    (h1 : (∃ b, b ∈ S ∧ ya_kind v b = 4) → J (nI S.length) (nI (i + 1)) v) (h0 : ¬ (∃ b, b ∈ S ∧ ya_kind v b = 4) → post (nI i) v) :
    ∀ d t f, t + d = S.length → ((f = 0 ∧ ∀ q, q < t → ∀ b, ya_open v q = nI b → b < 60 → ¬ ya_kind v b = 4) ∨ (f = 1 ∧ ∃ b, b ∈ S ∧ ya_kind v b = 4)) → ∀ m, d < m → cy_form_240 post J (nI S.length) (nI i) v m f (nI t) := by
  intro d
  induction d with
  | zero =>
    intro t f ht hf m hm
    obtain ⟨m, rfl⟩ : ∃ q, m = q + 1 := ⟨m - 1, by omega⟩
    rw [uy_form_240]
    refine br_t (nI_le (by omega) (by omega)) ?_
    rcases hf with ⟨e, h⟩ | ⟨e, h⟩
    · refine br_t e (h0 ?_)
      rintro ⟨b, hb1, k4⟩
      obtain ⟨q, hq, eq⟩ := H2 b hb1
      exact h q (by omega) b eq (hb b hb1) k4
    · exact br_f (by rw [e]; decide) (nm_r (nI_1 _) (h1 h))
  | succ d ih =>
    intro t f ht hf m hm
    obtain ⟨m, rfl⟩ : ∃ q, m = q + 1 := ⟨m - 1, by omega⟩
    rw [uy_form_240]
    obtain ⟨b, hb1, eb⟩ := H1 t (by omega)
    have b60 := hb b hb1
    refine br_f (nI_ge (by omega) (by omega)) ⟨vp_in_nI (by omega) (by decide), ?_⟩
    rw [nI_clamp (by omega), eb]
    refine ⟨vp_in_nI b60 (by decide), ?_⟩
    rw [nI_clamp (by omega)]
    refine br_c (fun k4 => nm_r (nI_1 _) (ih (t + 1) 1 (by omega) (Or.inr ⟨rfl, b, hb1, k4⟩) m (by omega))) (fun k4 => nm_r (nI_1 _) (ih (t + 1) f (by omega) ?_ m (by omega)))
    rcases hf with ⟨e, h⟩ | ⟨e, h⟩
    · refine Or.inl ⟨e, fun q hq b' eq' hb' => ?_⟩
      by_cases z : q = t
      · subst z
        rw [eb] at eq'
        rw [← (nI_eq (by omega) (by omega)).mp eq']
        exact k4
      · exact h q (by omega) b' eq' hb'
    · exact Or.inr ⟨e, h⟩
def fm_v (v : SY) (op sn : Nat → Int32) : SY := ys_seen (ys_open v op) sn
theorem fv_1 {v : SY} {op sn s : Nat → Int32} : ys_seen (fm_v v op sn) s = fm_v v op s := Eq.trans (b := (yb_lines v, yb_bad v, yb_state v, yb_queued v, yb_started v, yb_now v, yb_clock v, yb_turn v, yb_off v, yb_made v, yb_printed v, yb_panicValue v, yb_kind v, yb_opA v, yb_opB v, yb_opC v, op, s, yb_unset v, yb_status v, yb_depth v, yb_since v, yb_resume v, yb_shocked v, yb_queue v, yb_until v, yb_channels v, yb_pc v, yb_vars v, yb_noted v, yb_noteOf v, yb_noteB v, yb_noteC v, yb_asNote v, yb_panics v, yb_panicWith v, yb_capacity v, yb_held v, yb_closed v, yb_values v, yb_out v)) rfl rfl
theorem fv_2 {v : SY} {op sn o s : Nat → Int32} : ys_seen (ys_open (fm_v v op sn) o) s = fm_v v o s := Eq.trans (b := (yb_lines v, yb_bad v, yb_state v, yb_queued v, yb_started v, yb_now v, yb_clock v, yb_turn v, yb_off v, yb_made v, yb_printed v, yb_panicValue v, yb_kind v, yb_opA v, yb_opB v, yb_opC v, o, s, yb_unset v, yb_status v, yb_depth v, yb_since v, yb_resume v, yb_shocked v, yb_queue v, yb_until v, yb_channels v, yb_pc v, yb_vars v, yb_noted v, yb_noteOf v, yb_noteB v, yb_noteC v, yb_asNote v, yb_panics v, yb_panicWith v, yb_capacity v, yb_held v, yb_closed v, yb_values v, yb_out v)) rfl rfl
theorem fv_0 {v : SY} : v = fm_v v (ya_open v) (ya_seen v) := rfl
/-- a SELECT's first line is a section or its END: then no section is seen only right behind the SELECT -/
theorem fm_first {K : Nat → Int32} {i o : Nat} {r : List Nat} (h : ∀ j, j < i → fm_ok K j) (e : st_s K i = o :: r) (k6 : K o = 6) : fm_sv (st_n K st_pc o i) (st_n K st_pa o i) = 0 ↔ o + 1 = i := by
  have ho := (st_lt (K := K) (i := i) (b := o) (by rw [e]; exact List.mem_cons_self)).1
  constructor
  · intro z
    by_cases q : o + 1 = i
    · exact q
    · exfalso
      have e1 : st_s K (o + 1) = o :: st_s K o := st_opn (Or.inr (Or.inr (Or.inr k6)))
      have ok := h (o + 1) (by omega)
      rw [fm_cons e1] at ok
      have n1 : ¬ K (o + 1) = 1 := by
        intro k1
        have FF : st_F K i := fun j hj => fm_F (h j hj)
        obtain ⟨l, hl⟩ := st_back (st_F1 FF) (j := i) (l := []) (Nat.le_refl i) e (o + 1 + 1) (by omega) (by omega)
        rw [st_end k1, e1, ← st_hd e] at hl
        exact st_nlen hl
      have sec : st_sec (K (o + 1)) := by
        rcases ok.2 with w | w | w
        · exact absurd w n1
        · exact w.1
        · exact absurd ⟨k6, rfl⟩ w.2.2.1
      have mono : ∀ (P : Int32 → Bool) m, o + 2 ≤ m → st_n K P o (o + 2) ≤ st_n K P o m := by
        intro P m
        induction m with
        | zero => intro h; omega
        | succ m ih =>
          intro hm
          by_cases w : m + 1 = o + 2
          · rw [w]; exact Nat.le_refl _
          · have := ih (by omega)
            rw [xn_cnt (i := m)]; omega
      have hh : (st_s K (o + 1)).head? = some o := by rw [e1]; rfl
      have mc := mono st_pc i (by omega)
      have ma := mono st_pa i (by omega)
      rw [xn_cnt (i := o + 1)] at mc ma
      have : 1 ≤ st_n K st_pc o i + st_n K st_pa o i := by
        rcases sec_or.mp sec with p | p
        · rw [if_pos ⟨hh, p⟩] at mc; omega
        · rw [if_pos ⟨hh, p⟩] at ma; omega
      unfold fm_sv at z
      rw [if_neg (by omega)] at z
      omega
  · intro q
    rw [← q, xn_0 (o + 1) (Nat.le_refl _), xn_0 (o + 1) (Nat.le_refl _)]
    rfl
theorem yj_312 {post : Int32 → SY → Prop} {J : Int32 → Int32 → SY → Prop} {v : SY} {op sn : Nat → Int32} {t i : Nat} (ht : t < 60) (hi : i < 60)
    (h : J (nI (t + 1)) (nI (i + 1)) (fm_v v (upd op t (nI i)) (upd sn t (nI 0)))) : cy_form_312 post J (nI t) (nI i) (fm_v v op sn) := by
  rw [uy_form_312]
  have ct : (nI t).toNatClampNeg = t := nI_clamp (by omega)
  refine ⟨vp_in_nI ht (by decide), nm_r (show _ = upd op t (nI i) by rw [ct, nb_8 i hi]; rfl) (nm_r (nI_1 _) ⟨vp_in_nI ht (by decide), nm_r (show _ = upd sn t (nI 0) by rw [ct]; rfl) (nm_r (nI_1 _) ?_)⟩)⟩
  rw [fv_2]
  exact h
theorem yj_180 {post : Int32 → SY → Prop} {J : Int32 → Int32 → SY → Prop} {v : SY} {op sn : Nat → Int32} {t i c a : Nat} {k : Int32} (ht : t < 60) (hi : i < 60) (hc : c < 4) (ha : a < 2) (hs : st_sec k)
    (h1 : st_pc k = true → c < 3 ∧ J (nI (t + 1)) (nI (i + 1)) (fm_v v op (upd sn t (nI (fm_sv (c + 1) a))))) (h0 : st_pc k = false → a < 1 ∧ J (nI (t + 1)) (nI (i + 1)) (fm_v v op (upd sn t (nI (fm_sv c (a + 1)))))) :
    cy_form_180 post J (nI (t + 1)) (nI i) k (nI (fm_sv c a)) (fm_v v op sn) := by
  rw [uy_form_180]
  have pm : nI (t + 1) - 1 = nI t := nI_pred t
  have ct : (nI t).toNatClampNeg = t := nI_clamp (by omega)
  rw [pm]
  have hk : (st_pc k = true ∧ k < 9) ∨ (st_pc k = false ∧ ¬ k < 9) := by rcases hs with h | h | h | h <;> (subst h; decide)
  rcases hk with ⟨p, q⟩ | ⟨p, q⟩
  · obtain ⟨h3, hJ⟩ := h1 p
    refine br_t q (br_c (fun z => ⟨vp_in_nI ht (by decide), nm_r (show _ = upd sn t (nI (fm_sv (c + 1) a)) from ?_) (nm_r (nI_1 _) ?_)⟩) (fun z => ⟨vp_in_nI ht (by decide), nm_r (show _ = upd sn t (nI (fm_sv (c + 1) a)) from ?_) (nm_r (nI_1 _) ?_)⟩))
    · have z' := (fs_0 c hc a ha).mp z
      have c0 : c = 0 := by omega
      have a0 : a = 0 := by omega
      subst c0 a0
      rw [ct]; rfl
    · rw [fv_1]; exact hJ
    · rw [ct, fs_c1 c h3 a ha (fun w => z ((fs_0 c hc a ha).mpr w))]; rfl
    · rw [fv_1]; exact hJ
  · obtain ⟨h3, hJ⟩ := h0 p
    refine br_f q (br_c (fun z => ⟨vp_in_nI ht (by decide), nm_r (show _ = upd sn t (nI (fm_sv c (a + 1))) from ?_) (nm_r (nI_1 _) ?_)⟩) (fun z => ⟨vp_in_nI ht (by decide), nm_r (show _ = upd sn t (nI (fm_sv c (a + 1))) from ?_) (nm_r (nI_1 _) ?_)⟩))
    · have z' := (fs_0 c hc a ha).mp z
      have c0 : c = 0 := by omega
      have a0 : a = 0 := by omega
      subst c0 a0
      rw [ct]; rfl
    · rw [fv_1]; exact hJ
    · rw [ct, fs_a1 c hc a h3 (fun w => z ((fs_0 c hc a ha).mpr w))]; rfl
    · rw [fv_1]; exact hJ
/-- a line in block o: what the 109th row asks -/
theorem yj_109 {post : Int32 → SY → Prop} {J : Int32 → Int32 → SY → Prop} {v : SY} {op sn : Nat → Int32} {i o : Nat} {r : List Nat} (hi : i < 60) (e : st_s (ya_kind v) i = o :: r) (hok : ∀ j, j < i → fm_ok (ya_kind v) j)
    (hs : fm_stk op sn (ya_kind v) i (o :: r)) (k0 : ¬ ya_kind v i = 0) (k6 : ¬ ya_kind v i = 1 → ¬ st_sec (ya_kind v i) → ¬ (ya_kind v o = 6 ∧ o + 1 = i))
    (h1 : fm_ok (ya_kind v) i → ∀ op sn, fm_stk op sn (ya_kind v) (i + 1) (st_s (ya_kind v) (i + 1)) → J (nI (st_s (ya_kind v) (i + 1)).length) (nI (i + 1)) (fm_v v op sn))
    (h0 : ¬ fm_ok (ya_kind v) i → post (nI i) (fm_v v op sn)) : cy_form_109 post J (nI (r.length + 1)) (nI i) (ya_kind v i) (ya_kind v o) (nI (fm_seen (ya_kind v) o i)) (fm_v v op sn) := by
  rw [fm_cons e] at h1 h0
  have lb := st_bnd (ya_kind v) i
  rw [e, List.length_cons] at lb
  have pm : nI (r.length + 1) - 1 = nI r.length := nI_pred _
  have cr : (nI r.length).toNatClampNeg = r.length := nI_clamp (by omega)
  obtain ⟨bc, ba, be⟩ := fm_bnd (o := o) i hok
  have ho : o < i := (st_lt (K := ya_kind v) (i := i) (b := o) (by rw [e]; exact List.mem_cons_self)).1
  have ur : ∀ b, b ∈ r → fm_seen (ya_kind v) b (i + 1) = fm_seen (ya_kind v) b i := by
    intro b hb
    refine fm_seen_s (fun z => ?_)
    have z1 := z.1
    rw [e] at z1
    have : o = b := by simpa using z1
    rw [← st_hd e] at hb
    have := (st_lt hb).1
    omega
  rw [uy_form_109]
  refine br_c (fun k3 => ?_) (fun k3 => ?_)
  · have n1 : ¬ ya_kind v i = 1 := by rw [k3]; decide
    have nop : ¬ st_op (ya_kind v i) := by rw [k3]; decide
    have nsec : ¬ st_sec (ya_kind v i) := by rw [k3]; decide
    refine br_c (fun k2 => ?_) (fun k2 => h0 ?_)
    · have se : fm_seen (ya_kind v) o i = st_n (ya_kind v) st_pe o i := by unfold fm_seen; rw [if_pos k2]
      rw [se]
      by_cases z : st_n (ya_kind v) st_pe o i = 0
      · rw [z]
        refine br_t rfl ?_
        rw [pm]
        refine ⟨vp_in_nI (by omega) (by decide), nm_r (show _ = upd sn r.length (nI 1) by rw [cr]; rfl) (nm_r (nI_1 _) ?_)⟩
        rw [fv_1]
        have key := h1 ⟨k0, Or.inr (Or.inr ⟨n1, nsec, k6 n1 nsec, fun _ => ⟨k2, (xn_el i).mp z⟩, fun w => by rw [k3] at w; exact absurd w (by decide)⟩)⟩ op (upd sn r.length (nI 1))
        rw [st_oth n1 nop, e] at key
        refine key ⟨hs.1, ?_, fm_stk_n (Nat.le_refl _) (fm_stk_i ur hs.2.2)⟩
        rw [pk_us]
        unfold fm_seen
        rw [if_pos k2, xn_cnt, z, if_pos ⟨by rw [e]; rfl, st_pe_iff.mpr k3⟩]
      · refine br_f (nI_ne0 (by omega) (by omega)) (h0 ?_)
        rintro ⟨_, w | w | w⟩
        · exact n1 w
        · exact nsec w.1
        · exact z ((xn_el i).mpr (w.2.2.2.1 k3).2)
    · rintro ⟨_, w | w | w⟩
      · exact n1 w
      · exact nsec w.1
      · exact k2 (w.2.2.2.1 k3).1
  · by_cases sec : st_sec (ya_kind v i)
    · have n1 : ¬ ya_kind v i = 1 := by intro w; rw [w] at sec; exact absurd sec (by decide)
      have nop : ¬ st_op (ya_kind v i) := by rcases sec with h | h | h | h <;> (rw [h]; decide)
      refine ysec_t sec (br_f (by decide) (br_c (fun ko => ?_) (fun ko => h0 ?_)))
      · have se : fm_seen (ya_kind v) o i = fm_sv (st_n (ya_kind v) st_pc o i) (st_n (ya_kind v) st_pa o i) := by
          unfold fm_seen
          rw [if_neg (by rw [ko]; decide), if_pos ko]
        rw [se]
        have hh : (st_s (ya_kind v) i).head? = some o := by rw [e]; rfl
        have go : (st_pc (ya_kind v i) = true → st_n (ya_kind v) st_pc o i < 3) → (st_pc (ya_kind v i) = false → st_n (ya_kind v) st_pa o i < 1) → cy_form_180 post J (nI (r.length + 1)) (nI i) (ya_kind v i) (nI (fm_sv (st_n (ya_kind v) st_pc o i) (st_n (ya_kind v) st_pa o i))) (fm_v v op sn) := by
          intro g1 g0
          have key := h1 ⟨k0, Or.inr (Or.inl ⟨sec, ko, g1, g0⟩)⟩ op
          rw [st_oth n1 nop, e] at key
          refine yj_180 (by omega) hi (by omega) (by omega) sec (fun p => ⟨g1 p, key _ ⟨hs.1, ?_, fm_stk_n (Nat.le_refl _) (fm_stk_i ur hs.2.2)⟩⟩) (fun p => ⟨g0 p, key _ ⟨hs.1, ?_, fm_stk_n (Nat.le_refl _) (fm_stk_i ur hs.2.2)⟩⟩)
          · rw [pk_us]
            unfold fm_seen
            have pa : st_pa (ya_kind v i) = false := by rw [st_pc_iff] at p; rcases p with p | p <;> (rw [p]; rfl)
            rw [if_neg (by rw [ko]; decide), if_pos ko, xn_cnt, xn_cnt, if_pos ⟨hh, p⟩, if_neg (fun w => by rw [pa] at w; exact absurd w.2 (by decide))]
            rfl
          · rw [pk_us]
            unfold fm_seen
            have pa : st_pa (ya_kind v i) = true := by rcases sec_or.mp sec with w | w
                                                       · rw [p] at w; cases w
                                                       · exact w
            rw [if_neg (by rw [ko]; decide), if_pos ko, xn_cnt, xn_cnt, if_neg (fun w => by rw [p] at w; exact absurd w.2 (by decide)), if_pos ⟨hh, pa⟩]
            rfl
        have bad : ∀ (x : Prop), (x → (st_pc (ya_kind v i) = true → st_n (ya_kind v) st_pc o i < 3) ∧ (st_pc (ya_kind v i) = false → st_n (ya_kind v) st_pa o i < 1) → False) → x → post (nI i) (fm_v v op sn) := by
          intro x hx x'
          refine h0 ?_
          rintro ⟨_, w | w | w⟩
          · exact n1 w
          · exact hx x' ⟨w.2.2.1, w.2.2.2⟩
          · exact w.2.1 sec
        have hk : (st_pc (ya_kind v i) = true ∧ ya_kind v i < 9) ∨ (st_pc (ya_kind v i) = false ∧ ¬ ya_kind v i < 9) := by rcases sec with h | h | h | h <;> (rw [h]; decide)
        rcases hk with ⟨p, q⟩ | ⟨p, q⟩
        · refine br_t q ?_
          rw [fs_and _ (by omega) _ (by omega)]
          exact br_c (fun w => go (fun _ => w) (fun z => absurd (p.symm.trans z) (by decide))) (bad _ (fun w z => w (z.1 p)))
        · refine br_f q ?_
          rw [fs_lt _ (by omega) _ (by omega)]
          exact br_c (fun w => go (fun z => absurd (z.symm.trans p) (by decide)) (fun _ => w)) (bad _ (fun w z => w (z.2 p)))
      · rintro ⟨_, w | w | w⟩
        · exact n1 w
        · exact ko w.2.1
        · exact w.2.1 sec
    · have uo : fm_seen (ya_kind v) o (i + 1) = fm_seen (ya_kind v) o i := fm_seen_s (fun z => z.2.elim k3 sec)
      have all : fm_stk op sn (ya_kind v) (i + 1) (o :: r) := fm_stk_i (fun b hb => by rcases List.mem_cons.mp hb with w | w
                                                                                       · rw [w]; exact uo
                                                                                       · exact ur b w) hs
      have okk : ¬ ya_kind v i = 1 → (ya_kind v i = 5 → ∃ b, b ∈ st_s (ya_kind v) i ∧ ya_kind v b = 4) → _ := fun n1 h5 => h1 ⟨k0, Or.inr (Or.inr ⟨n1, sec, k6 n1 sec, fun w => absurd w k3, h5⟩)⟩
      refine ysec_f sec (br_t rfl (br_c (fun k5 => ⟨r.length + 1 + 1, ?_⟩) (fun k5 => br_c (fun k1 => ?_) (fun k1 => ?_))))
      · have n1 : ¬ ya_kind v i = 1 := by rw [k5]; decide
        have nop : ¬ st_op (ya_kind v i) := by rw [k5]; decide
        have b60 : ∀ b, b ∈ o :: r → b < 60 := fun b hb => by rw [← e] at hb; have := (st_lt hb).1; omega
        refine yb_loop (v := fm_v v op sn) (S := o :: r) hi (by rw [List.length_cons]; omega) b60 (fm_stk_1 hs) (fm_stk_2 hs) (fun w => ?_) (fun w => h0 ?_) (r.length + 1) 0 0 (by rw [List.length_cons]; omega) (Or.inl ⟨rfl, fun q hq => by omega⟩) _ (by omega)
        · have key := okk n1 (fun _ => by rw [e]; exact w) op sn
          rw [st_oth n1 nop, e] at key
          exact key all
        · rintro ⟨_, x | x | x⟩
          · exact n1 x
          · exact sec x.1
          · have := x.2.2.2.2 k5
            rw [e] at this
            exact w this
      · have key := h1 ⟨k0, Or.inl k1⟩ op sn
        rw [st_end k1, e] at key
        exact nm_r (pk_m1 _) (nm_r (nI_1 _) (key all.2.2))
      · have push : st_op (ya_kind v i) → cy_form_312 post J (nI (r.length + 1)) (nI i) (fm_v v op sn) := by
          intro ho'
          have key := okk k1 (fun w => absurd w k5) (upd op (r.length + 1) (nI i)) (upd sn (r.length + 1) (nI 0))
          rw [st_opn ho', e] at key
          refine yj_312 (by omega) hi (key ⟨?_, ?_, ?_⟩)
          · rw [List.length_cons, pk_us]
          · rw [List.length_cons, pk_us, fm_seen_0]
          · exact fm_stk_u (by rw [List.length_cons]; omega) all
        refine br_c (fun w => absurd w k0) (fun _ => br_c (fun w => push (Or.inr (Or.inl w))) (fun w2 => br_c (fun w => push (Or.inr (Or.inr (Or.inl w)))) (fun w4 => br_c (fun w => push (Or.inr (Or.inr (Or.inr w)))) (fun w6 => nm_r (nI_1 _) ?_))))
        have nop : ¬ st_op (ya_kind v i) := fun z => z.elim k0 (fun z => z.elim w2 (fun z => z.elim w4 w6))
        have key := okk k1 (fun w => absurd w k5) op sn
        rw [st_oth k1 nop, e] at key
        exact key all
theorem yf_loop {post : Int32 → SY → Prop} {v : SY} {n : Nat} (hn : ya_lines v = nI n) (n60 : n ≤ 60) (hp : ∀ r op sn, fm_res (ya_kind v) n r → post r (fm_v v op sn)) :
    ∀ d i op sn, i + d = n → (∀ j, j < i → fm_ok (ya_kind v) j) → fm_stk op sn (ya_kind v) i (st_s (ya_kind v) i) → ∀ m, d < m → cy_form_4 post m (nI (st_s (ya_kind v) i).length) (nI i) (fm_v v op sn) := by
  intro d
  induction d with
  | zero =>
    intro i op sn hi hok hs m hm
    obtain ⟨m, rfl⟩ : ∃ q, m = q + 1 := ⟨m - 1, by omega⟩
    have e : i = n := by omega
    subst e
    have lb := st_bnd (ya_kind v) i
    rw [uy_form_4]
    have hl : ya_lines (fm_v v op sn) = nI i := hn
    rw [hl]
    refine br_t (nI_le (Nat.le_refl _) (by omega)) ?_
    cases e2 : st_s (ya_kind v) i with
    | nil =>
      refine br_f (by decide) ?_
      by_cases z : i = 0
      · exact br_t (by rw [z]; rfl) (hp _ _ _ (Or.inr ⟨hok, Or.inr ⟨fun w => by omega, rfl⟩⟩))
      · exact br_f (nI_ne0 (by omega) (by omega)) (hp _ _ _ (Or.inr ⟨hok, Or.inl ⟨e2, by omega, rfl⟩⟩))
    | cons o r =>
      rw [e2] at lb
      exact br_t (nI_lt (a := 0) (Nat.succ_pos _) (by omega)) (hp _ _ _ (Or.inr ⟨hok, Or.inr ⟨fun w => absurd (e2.symm.trans w.1) (List.cons_ne_nil _ _), rfl⟩⟩))
  | succ d ih =>
    intro i op sn hi hok hs m hm
    obtain ⟨m, rfl⟩ : ∃ q, m = q + 1 := ⟨m - 1, by omega⟩
    have lb := st_bnd (ya_kind v) i
    have ci : (nI i).toNatClampNeg = i := nI_clamp (by omega)
    rw [uy_form_4]
    have hl : ya_lines (fm_v v op sn) = nI n := hn
    rw [hl]
    have hok' : fm_ok (ya_kind v) i → ∀ j, j < i + 1 → fm_ok (ya_kind v) j := fun ok j hj => by
      by_cases z : j = i
      · subst z; exact ok
      · exact hok j (by omega)
    have nx : fm_ok (ya_kind v) i → ∀ op sn, fm_stk op sn (ya_kind v) (i + 1) (st_s (ya_kind v) (i + 1)) → cy_form_4 post m (nI (st_s (ya_kind v) (i + 1)).length) (nI (i + 1)) (fm_v v op sn) :=
      fun ok op sn h => ih (i + 1) op sn (by omega) (hok' ok) h m (by omega)
    have bad : ¬ fm_ok (ya_kind v) i → post (nI i) (fm_v v op sn) := fun nok => hp _ _ _ (Or.inl ⟨i, by omega, hok, nok, rfl⟩)
    refine br_f (nI_ge (by omega) (by omega)) ⟨vp_in_nI (by omega) (by decide), nm_r (show _ = ya_kind v i by rw [ci]; rfl) ?_⟩
    cases e : st_s (ya_kind v) i with
    | nil =>
      refine br_t (by decide) ?_
      rw [uy_form_40]
      refine br_t (by decide) ?_
      rw [uy_form_58]
      refine br_c (fun k0 => ?_) (fun k0 => ?_)
      · rw [uy_form_69]
        refine br_t rfl ?_
        rw [uy_form_78]
        refine br_t rfl (br_f (by decide) ?_)
        rw [uy_form_109]
        refine br_f (by rw [k0]; decide) (ysec_f (by rw [k0]; decide) (br_t rfl (br_f (by rw [k0]; decide) (br_f (by rw [k0]; decide) (br_t k0 ?_)))))
        have key := nx ((fm_nil e).mpr k0) (upd op 0 (nI i)) (upd sn 0 (nI 0))
        rw [st_opn (Or.inl k0), e] at key
        refine yj_312 (t := 0) (by omega) (by omega) (key ⟨?_, ?_, True.intro⟩)
        · exact pk_us
        · rw [fm_seen_0]; exact pk_us
      · rw [uy_form_69]
        refine br_t rfl ?_
        rw [uy_form_78]
        exact br_f (by decide) (bad (fun w => k0 ((fm_nil e).mp w)))
    | cons o r =>
      rw [e] at hs lb
      rw [List.length_cons] at lb
      have ho : o < i := (st_lt (K := ya_kind v) (i := i) (b := o) (by rw [e]; exact List.mem_cons_self)).1
      have pm : nI (r.length + 1) - 1 = nI r.length := nI_pred _
      have cr : (nI r.length).toNatClampNeg = r.length := nI_clamp (by omega)
      have eo : ya_open (fm_v v op sn) r.length = nI o := hs.1
      have es : ya_seen (fm_v v op sn) r.length = nI (fm_seen (ya_kind v) o i) := hs.2.1
      rw [List.length_cons, pm, cr, eo]
      refine br_f (nI_nle (by omega) (by omega)) ⟨vp_in_nI (by omega) (by decide), vp_in_nI (by omega) (by decide), ?_⟩
      rw [nI_clamp (show o < 2 ^ 31 by omega), uy_form_40]
      refine br_f (nI_nle (by omega) (by omega)) ?_
      rw [pm]
      refine ⟨vp_in_nI (by omega) (by decide), ?_⟩
      rw [cr, es, uy_form_58]
      have nz : ¬ nI (r.length + 1) = 0 := nI_ne0 (by omega) (by omega)
      refine br_c (fun k0 => ?_) (fun k0 => ?_)
      · rw [uy_form_69]
        refine br_f nz ?_
        rw [uy_form_78]
        exact br_f (by decide) (bad (fun w => ((fm_cons e).mp w).1 k0))
      · rw [uy_form_69]
        refine br_f nz ?_
        rw [uy_form_78]
        have sl := fm_seen_le (o := o) hok
        have go : (¬ ya_kind v i = 1 → ¬ st_sec (ya_kind v i) → ¬ (ya_kind v o = 6 ∧ o + 1 = i)) → cy_form_109 post (cy_form_4 post m) (nI (r.length + 1)) (nI i) (ya_kind v i) (ya_kind v o) (nI (fm_seen (ya_kind v) o i)) (fm_v v op sn) :=
          fun k6 => yj_109 (by omega) e hok hs k0 k6 nx bad
        refine br_t rfl (br_c (fun k6 => ?_) (fun k6 => go (fun _ _ z => k6 z.1)))
        have k6' : ya_kind v o = 6 := k6
        have se : fm_seen (ya_kind v) o i = fm_sv (st_n (ya_kind v) st_pc o i) (st_n (ya_kind v) st_pa o i) := by
          unfold fm_seen
          rw [if_neg (by rw [k6']; decide), if_pos k6']
        have ff := fm_first hok e k6'
        rw [← se] at ff
        refine br_c (fun z => ?_) (fun z => go (fun _ _ w => z (by rw [ff.mpr w.2]; rfl)))
        have z' : fm_seen (ya_kind v) o i = 0 := (nI_eq (b := 0) (by omega) (by omega)).mp z
        refine br_c (fun k1 => go (fun n1 => absurd k1 n1)) (fun n1 => ?_)
        by_cases sec : st_sec (ya_kind v i)
        · exact ysec_t sec (br_f (by decide) (go (fun _ ns => absurd sec ns)))
        · refine ysec_f sec (br_t rfl (bad (fun w => ?_)))
          rcases ((fm_cons e).mp w).2 with x | x | x
          · exact n1 x
          · exact sec x.1
          · exact x.2.2.1 ⟨k6', ff.mp z'⟩
theorem yf_form {post : Int32 → SY → Prop} {v : SY} {n : Nat} (hn : ya_lines v = nI n) (n60 : n ≤ 60) (hp : ∀ r op sn, fm_res (ya_kind v) n r → post r (fm_v v op sn)) : wpY_form post v := by
  rw [uy_form]
  exact ⟨_, yf_loop hn n60 hp n 0 (ya_open v) (ya_seen v) (by omega) (fun j hj => by omega) True.intro (n + 1) (by omega)⟩
/-- lines without a fault of form are well formed -/
theorem fm_wf {K : Nat → Int32} {n : Nat} (n60 : n ≤ 60) (h : fm_res K n (-1)) : st_wf K n ∧ (∀ j, j < n → fm_ok K j) ∧ 0 < n := by
  rcases h with ⟨i, a, b, c, d⟩ | ⟨b, ⟨c1, c2, c3⟩ | ⟨c1, c3⟩⟩
  · exact absurd d.symm (ne_m1 (by omega))
  · refine ⟨⟨n60, c1, fun i hi => fm_F (b i hi), fun i hi k3 => ?_, fun i hi sec => ?_, fun i hi k5 => ?_⟩, b, c2⟩
    · have ok := b i hi
      cases e : st_s K i with
      | nil => rw [fm_nil e, k3] at ok; exact absurd ok (by decide)
      | cons o r =>
        rw [fm_cons e, k3] at ok
        rcases ok.2 with w | w | w
        · exact absurd w (by decide)
        · exact absurd w.1 (by decide)
        · exact ⟨o, r, rfl, (w.2.2.2.1 rfl).1⟩
    · have ok := b i hi
      cases e : st_s K i with
      | nil => rw [fm_nil e] at ok; rw [ok] at sec; exact absurd sec (by decide)
      | cons o r =>
        rw [fm_cons e] at ok
        rcases ok.2 with w | w | w
        · rw [w] at sec; exact absurd sec (by decide)
        · exact ⟨o, r, rfl, w.2.1⟩
        · exact absurd sec w.2.1
    · have ok := b i hi
      cases e : st_s K i with
      | nil => rw [fm_nil e, k5] at ok; exact absurd ok (by decide)
      | cons o r =>
        rw [fm_cons e] at ok
        rcases ok.2 with w | w | w
        · rw [k5] at w; exact absurd w (by decide)
        · rw [k5] at w; exact absurd w.1 (by decide)
        · have := w.2.2.2.2 k5
          rw [e] at this
          exact this
  · exact absurd c3.symm (ne_m1 (by omega))
