/-! UNSET: Y -/
def sy_st (v : SY) (n : Nat) : Prop :=
  ya_lines v = nI n ∧ st_wf (ya_kind v) n ∧ 0 < n ∧ (∀ j, j < n → fm_ok (ya_kind v) j) ∧
  (∀ i, i < n → ln_ok (ya_kind v i) (ya_opA v i) (ya_opB v i) (ya_opC v i)) ∧ (∀ i, i < n → ln_go (ya_kind v i) → ya_opA v i < nI (st_f (ya_kind v) n)) ∧ st_f (ya_kind v) n ≤ 30
theorem us_us {v : SY} {s s' : Nat → Int32} : ys_unset (ys_unset v s) s' = ys_unset v s' := Eq.trans (b := (yb_lines v, yb_bad v, yb_state v, yb_queued v, yb_started v, yb_now v, yb_clock v, yb_turn v, yb_off v, yb_made v, yb_printed v, yb_panicValue v, yb_kind v, yb_opA v, yb_opB v, yb_opC v, yb_open v, yb_seen v, s', yb_status v, yb_depth v, yb_since v, yb_resume v, yb_shocked v, yb_queue v, yb_until v, yb_channels v, yb_pc v, yb_vars v, yb_noted v, yb_noteOf v, yb_noteB v, yb_noteC v, yb_asNote v, yb_panics v, yb_panicWith v, yb_capacity v, yb_held v, yb_closed v, yb_values v, yb_out v)) rfl rfl
theorem le5 {x : Int32} : 5 < x ↔ (6 : Int32) ≤ x := by
  rw [Int32.lt_iff_toInt_lt, Int32.le_iff_toInt_le, show (5 : Int32).toInt = 5 from rfl, show (6 : Int32).toInt = 6 from rfl]
  omega
theorem yb_bit {post : Int32 → Prop} {v : SY} {x : Int32} (h : post (nI (un_b x))) : wpY_bit post v x := by
  rw [uy_bit, le5]
  by_cases h0 : x < 0
  · unfold un_b at h; rw [if_pos h0] at h
    exact br_t h0 h
  · by_cases h6 : (6 : Int32) ≤ x
    · unfold un_b at h; rw [if_neg h0, if_pos h6] at h
      exact br_f h0 (br_t h6 h)
    · obtain ⟨a, ha, e, eb⟩ := un_b_in h0 h6
      rw [eb] at h
      refine br_f h0 (br_f h6 ?_)
      rw [e, un_shl a ha]; exact h
/-- Y: a function's line -/
theorem sy_fun {post : Int32 → Prop} {v : SY} {n f : Nat} (T : sy_st v n) (hf : f < st_f (ya_kind v) n) (h : ∀ j, j < n → ya_kind v j = 0 → st_f (ya_kind v) j = f → st_fl (ya_kind v) f n = j → post (nI j)) : wpY_function post v (nI f) := by
  obtain ⟨h1, W, n0, ok, L, C, F30⟩ := T
  exact yfn h1 W.1 (by omega) (fun j a b c => h j a b c (st_fl_eq b c n a)) (fun z => by omega)
theorem sy_par {post : Int32 → Prop} {v : SY} {n f : Nat} (T : sy_st v n) (hf : f < st_f (ya_kind v) n) (h : un_pf (ya_kind v) (ya_opA v) n f < 3 → post (nI (un_pf (ya_kind v) (ya_opA v) n f))) : wpY_params post v (nI f) := by
  rw [uy_params]
  refine sy_fun T hf (fun j a b c d => ⟨vp_in_nI (by have := T.2.1.1; omega) (by decide), ?_⟩)
  obtain ⟨p, hp, ep⟩ := (T.2.2.2.2.1 j a).2.1 b
  have e : un_pf (ya_kind v) (ya_opA v) n f = p := by unfold un_pf; rw [d, ep, nI_clamp (by omega)]
  rw [nI_clamp (by have := T.2.1.1; omega), ep, ← e]
  exact h (by omega)
/-- the next part of block o behind line i -/
theorem sy_part {post : Int32 → Prop} {v : SY} {n o i : Nat} (T : sy_st v n) (ho : o < n) (hop : st_op (ya_kind v o)) (hi : i = o ∨ (st_P (ya_kind v) o i ∧ i < n))
    (hS : ∀ j', i < j' → j' < st_e (ya_kind v) o n → st_P (ya_kind v) o j' → (∀ k, i < k → k < j' → ¬ st_P (ya_kind v) o k) → post (nI j'))
    (hN : (∀ k, i < k → k < st_e (ya_kind v) o n → ¬ st_P (ya_kind v) o k) → post (-1)) : wpY_part post v (nI o) (nI i) := by
  obtain ⟨h1, W, n0, ok, L, C, F30⟩ := T
  obtain ⟨p1, p2, p3, p4, p5⟩ := un_opn W ho hop
  rcases hi with e | ⟨⟨a, b⟩, hin⟩
  · subst e
    exact ye_part h1 W.1 W.2.2.1 p2 p3 p4 (Nat.le_refl _) (by omega) (st_opn hop) hS hN
  · obtain ⟨r, er, oi, _, rs⟩ := un_hdo a
    have n1 : ¬ ya_kind v i = 1 := by rcases b with k | k | k | k | k <;> (rw [k]; decide)
    have nop : ¬ st_op (ya_kind v i) := by rcases b with k | k | k | k | k <;> (rw [k]; decide)
    have := (st_e_of W.2.2.1 W.2.1 (l := []) (Nat.le_of_lt hin) er).1
    have ne : i ≠ st_e (ya_kind v) o n := fun z => n1 (by rw [z]; exact p3)
    exact ye_part h1 W.1 W.2.2.1 p2 p3 p4 (by omega) (by omega) (by rw [st_oth n1 nop, er, rs]) hS hN
theorem un_sel_skip {K A B : Nat → Int32} {o a : Nat} : ∀ b, a ≤ b → (∀ k, a ≤ k → k < b → ¬ st_P K o k) → un_sel K A B o b = un_sel K A B o a := by
  intro b
  induction b with
  | zero => intro h _; rw [show a = 0 by omega]
  | succ b ih =>
    intro h hn
    by_cases e : a = b + 1
    · rw [e]
    · have := ih (by omega) (fun k p q => hn k p (by omega))
      show un_sel K A B o b ||| _ = _
      rw [this]
      have np := hn b (by omega) (by omega)
      split
      · rename_i hh
        rw [if_neg (fun z => np ⟨hh, Or.inr (by rw [z]; decide)⟩), if_neg (fun z => np ⟨hh, Or.inr (by rw [z]; decide)⟩), if_neg (fun z => np ⟨hh, Or.inr (by rw [z]; decide)⟩)]
        exact Nat.or_zero _
      · exact Nat.or_zero _
theorem yr_sel {post : Int32 → Prop} {v : SY} {n o : Nat} (T : sy_st v n) (ho : o < n) (k6 : ya_kind v o = 6) (h : post (nI (un_sel (ya_kind v) (ya_opA v) (ya_opB v) o (st_e (ya_kind v) o n)))) :
    ∀ d j, j + d = st_e (ya_kind v) o n → st_P (ya_kind v) o j → j < st_e (ya_kind v) o n → ∀ m, d + 1 < m → cy_reads_227 post (nI o) v m (nI (un_sel (ya_kind v) (ya_opA v) (ya_opB v) o j)) (nI j) := by
  have n60 := T.2.1.1
  have hop : st_op (ya_kind v o) := Or.inr (Or.inr (Or.inr k6))
  obtain ⟨p1, p2, p3, p4, p5⟩ := un_opn T.2.1 ho hop
  intro d
  induction d using Nat.strongRecOn with
  | _ d ih =>
    intro j hj hP hje m hm
    obtain ⟨m, rfl⟩ : ∃ q, m = q + 1 := ⟨m - 1, by omega⟩
    have cj : (nI j).toNatClampNeg = j := nI_clamp (by omega)
    have vj : vp_in (nI j) 60 := vp_in_nI (by omega) (by decide)
    have us : un_sel (ya_kind v) (ya_opA v) (ya_opB v) o (j + 1) = un_sel (ya_kind v) (ya_opA v) (ya_opB v) o j ||| (if ya_kind v j = 7 then un_b (ya_opA v j) ||| un_b (ya_opB v j) else if ya_kind v j = 8 then un_b (ya_opB v j) else if ya_kind v j = 29 then un_b (ya_opA v j) else 0) := by
      show un_sel _ _ _ o j ||| _ = _
      rw [if_pos hP.1]
    have nx : cy_reads_328 post (cy_reads_227 post (nI o) v m) (nI o) (nI (un_sel (ya_kind v) (ya_opA v) (ya_opB v) o (j + 1))) (nI j) v := by
      rw [uy_reads_328]
      refine sy_part T ho hop (Or.inr ⟨hP, by omega⟩) (fun j' a b c g => ?_) (fun g => ?_)
      · rw [← un_sel_skip (A := ya_opA v) (B := ya_opB v) j' (show j + 1 ≤ j' by omega) (fun k p q => g k (by omega) q)]
        exact ih (st_e (ya_kind v) o n - j') (by omega) j' (by omega) c b m (by omega)
      · obtain ⟨m, rfl⟩ : ∃ q, m = q + 1 := ⟨m - 1, by omega⟩
        rw [uy_reads_227, ← un_sel_skip (A := ya_opA v) (B := ya_opB v) (st_e (ya_kind v) o n) (show j + 1 ≤ _ by omega) (fun k p q => g k (by omega) q)]
        exact br_t (by decide) h
    rw [us] at nx
    rw [uy_reads_227, cj]
    refine br_f (nI_pos (by omega)) ⟨vj, ?_⟩
    by_cases k7 : ya_kind v j = 7
    · rw [if_pos k7] at nx
      refine br_t k7 ⟨vj, yb_bit ⟨vj, yb_bit (nm_r (show _ = nI _ by rw [nx_or, nx_or]) ?_)⟩⟩
      rw [uy_reads_272, cj]
      refine ⟨vj, br_f (by rw [k7]; decide) ?_⟩
      rw [uy_reads_300, cj]
      exact ⟨vj, br_f (by rw [k7]; decide) nx⟩
    · rw [if_neg k7] at nx
      refine br_f k7 ?_
      rw [uy_reads_272, cj]
      refine ⟨vj, ?_⟩
      by_cases k8 : ya_kind v j = 8
      · rw [if_pos k8] at nx
        refine br_t k8 ⟨vj, yb_bit (nm_r (show _ = nI _ by rw [nx_or]) ?_)⟩
        rw [uy_reads_300, cj]
        exact ⟨vj, br_f (by rw [k8]; decide) nx⟩
      · rw [if_neg k8] at nx
        refine br_f k8 ?_
        rw [uy_reads_300, cj]
        refine ⟨vj, ?_⟩
        by_cases k9 : ya_kind v j = 29
        · rw [if_pos k9] at nx
          exact br_t k9 ⟨vj, yb_bit (nm_r (show _ = nI _ by rw [nx_or]) nx)⟩
        · rw [if_neg k9, Nat.or_zero] at nx
          exact br_f k9 nx
theorem yr_reads {post : Int32 → Prop} {v : SY} {n i : Nat} (S : sy_st v n) (hi : i < n) (h : post (nI (un_r (ya_kind v) (ya_opA v) (ya_opB v) (ya_opC v) n i))) : wpY_reads post v (nI i) := by
  have n60 := S.2.1.1
  have ci : (nI i).toNatClampNeg = i := nI_clamp (by omega)
  have vi : vp_in (nI i) 60 := vp_in_nI (by omega) (by decide)
  rw [uy_reads, ci]
  refine ⟨vi, nm_e ⟨vi, yb_bit ⟨vi, yb_bit ⟨vi, yb_bit ?_⟩⟩⟩⟩
  unfold un_r at h
  have d343 : ¬ (ya_kind v i = 2 ∨ ya_kind v i = 4 ∨ ya_kind v i = 12 ∨ ya_kind v i = 18 ∨ ya_kind v i = 20 ∨ ya_kind v i = 28) → ¬ ya_kind v i = 10 → ¬ (ya_kind v i = 11 ∨ ya_kind v i = 21) → ¬ ln_go (ya_kind v i) → ¬ ya_kind v i = 6 → cy_reads_343 post (ya_kind v i) (nI (un_b (ya_opB v i))) (nI (un_b (ya_opC v i))) v := by
    intro a1 a2 a3 a4 a5
    rw [if_neg a1, if_neg a2, if_neg a3, if_neg a4, if_neg a5] at h
    rw [uy_reads_343]
    have rng : (ya_kind v i = 22 ∨ ya_kind v i = 23 ∨ ya_kind v i = 24 ∨ ya_kind v i = 25 ∨ ya_kind v i = 26 ∨ ya_kind v i = 27) ↔ ¬ ya_kind v i < 22 ∧ ¬ 27 < ya_kind v i := by
      have e : ∀ m : Int32, ya_kind v i = m ↔ (ya_kind v i).toInt = m.toInt := fun m => Int32.toInt_inj.symm
      simp only [e, Int32.lt_iff_toInt_lt, show (22 : Int32).toInt = 22 from rfl, show (23 : Int32).toInt = 23 from rfl, show (24 : Int32).toInt = 24 from rfl, show (25 : Int32).toInt = 25 from rfl, show (26 : Int32).toInt = 26 from rfl, show (27 : Int32).toInt = 27 from rfl]
      omega
    refine br_c (fun b => ?_) (fun b1 => br_c (fun b => ?_) (fun b2 => ?_))
    · rw [if_neg (fun z => (rng.mp z).1 b)] at h; exact h
    · rw [if_neg (fun z => (rng.mp z).2 b)] at h; exact h
    · rw [if_pos (rng.mpr ⟨b1, b2⟩)] at h
      rw [nx_or]; exact h
  have d174 : ln_go (ya_kind v i) → cy_reads_174 post (nI i) (nI (un_b (ya_opB v i))) (nI (un_b (ya_opC v i))) v := by
    intro g
    have a1 : ¬ (ya_kind v i = 2 ∨ ya_kind v i = 4 ∨ ya_kind v i = 12 ∨ ya_kind v i = 18 ∨ ya_kind v i = 20 ∨ ya_kind v i = 28) := by rcases g with k | k | k <;> (rw [k]; decide)
    have a2 : ¬ ya_kind v i = 10 := by rcases g with k | k | k <;> (rw [k]; decide)
    have a3 : ¬ (ya_kind v i = 11 ∨ ya_kind v i = 21) := by rcases g with k | k | k <;> (rw [k]; decide)
    rw [if_neg a1, if_neg a2, if_neg a3, if_pos g] at h
    obtain ⟨f, hf, ef⟩ := (S.2.2.2.2.1 i hi).2.2.2.2.2 g
    have lt := S.2.2.2.2.2.1 i hi g
    have F30 := S.2.2.2.2.2.2
    rw [ef, nI_ltI (by omega) (by omega)] at lt
    rw [ef, nI_clamp (show f < 2 ^ 31 by omega)] at h
    rw [uy_reads_174, ci, ef]
    refine ⟨vi, sy_par S lt (fun p3 => br_c (fun z => ?_) (fun z => ⟨vi, sy_par S lt (fun _ => br_c (fun w => ?_) (fun w => ?_))⟩))⟩
    · have : un_pf (ya_kind v) (ya_opA v) n f = 0 := (nI_eq (b := 0) (by omega) (by omega)).mp z
      rw [if_pos this] at h; exact h
    · have p0 : ¬ un_pf (ya_kind v) (ya_opA v) n f = 0 := fun q => z (by rw [q]; rfl)
      have : un_pf (ya_kind v) (ya_opA v) n f = 1 := (nI_eq (b := 1) (by omega) (by omega)).mp w
      rw [if_neg p0, if_pos this] at h; exact h
    · have p0 : ¬ un_pf (ya_kind v) (ya_opA v) n f = 0 := fun q => z (by rw [q]; rfl)
      have p1 : ¬ un_pf (ya_kind v) (ya_opA v) n f = 1 := fun q => w (by rw [q]; rfl)
      rw [if_neg p0, if_neg p1] at h
      rw [nx_or]; exact h
  have dA : (ya_kind v i = 2 ∨ ya_kind v i = 4 ∨ ya_kind v i = 12 ∨ ya_kind v i = 18 ∨ ya_kind v i = 20 ∨ ya_kind v i = 28) → post (nI (un_b (ya_opA v i))) := by
    intro a; rw [if_pos a] at h; exact h
  have dB : ya_kind v i = 11 ∨ ya_kind v i = 21 → post (nI (un_b (ya_opB v i))) := by
    intro a
    have a1 : ¬ (ya_kind v i = 2 ∨ ya_kind v i = 4 ∨ ya_kind v i = 12 ∨ ya_kind v i = 18 ∨ ya_kind v i = 20 ∨ ya_kind v i = 28) := by rcases a with k | k <;> (rw [k]; decide)
    have a2 : ¬ ya_kind v i = 10 := by rcases a with k | k <;> (rw [k]; decide)
    rw [if_neg a1, if_neg a2, if_pos a] at h; exact h
  have dk : ∀ k : Int32, ya_kind v i = k → (¬ (k = 2 ∨ k = 4 ∨ k = 12 ∨ k = 18 ∨ k = 20 ∨ k = 28)) → ¬ k = 10 → ¬ (k = 11 ∨ k = 21) → ¬ ln_go k → ¬ k = 6 → cy_reads_343 post (ya_kind v i) (nI (un_b (ya_opB v i))) (nI (un_b (ya_opC v i))) v := by
    intro k e b1 b2 b3 b4 b5
    subst e
    exact d343 b1 b2 b3 b4 b5
  obtain ⟨q, hq, eq⟩ := (S.2.2.2.2.1 i hi).1
  have gr := dk (ya_kind v i) rfl
  refine br_c (fun a => ?_) (fun _ => br_c (fun a => ?_) (fun _ => br_c (fun a => dA (Or.inl a)) (fun _ => br_c (fun a => dk 3 a (by decide) (by decide) (by decide) (by decide) (by decide)) (fun _ => br_c (fun a => dA (Or.inr (Or.inl a))) (fun _ => br_c (fun a => dk 5 a (by decide) (by decide) (by decide) (by decide) (by decide)) (fun _ => br_c (fun a => ?_) (fun _ =>
    br_c (fun a => dk 7 a (by decide) (by decide) (by decide) (by decide) (by decide)) (fun _ => br_c (fun a => dk 8 a (by decide) (by decide) (by decide) (by decide) (by decide)) (fun _ => br_c (fun a => dk 9 a (by decide) (by decide) (by decide) (by decide) (by decide)) (fun _ => br_c (fun a => ?_) (fun _ => br_c (fun a => dB (Or.inl a)) (fun _ => br_c (fun a => dA (Or.inr (Or.inr (Or.inl a)))) (fun _ =>
    br_c (fun a => dk 13 a (by decide) (by decide) (by decide) (by decide) (by decide)) (fun _ => br_c (fun a => d174 (Or.inl a)) (fun _ => br_c (fun a => d174 (Or.inr (Or.inl a))) (fun _ => br_c (fun a => d174 (Or.inr (Or.inr a))) (fun _ => br_c (fun a => dk 17 a (by decide) (by decide) (by decide) (by decide) (by decide)) (fun _ => br_c (fun a => dA (Or.inr (Or.inr (Or.inr (Or.inl a))))) (fun _ =>
    br_c (fun a => dk 19 a (by decide) (by decide) (by decide) (by decide) (by decide)) (fun _ => br_c (fun a => dA (Or.inr (Or.inr (Or.inr (Or.inr (Or.inl a)))))) (fun _ => br_c (fun a => dB (Or.inr a)) (fun _ => br_c (fun a => dk 22 a (by decide) (by decide) (by decide) (by decide) (by decide)) (fun _ => br_c (fun a => dk 23 a (by decide) (by decide) (by decide) (by decide) (by decide)) (fun _ => br_c (fun a => dk 24 a (by decide) (by decide) (by decide) (by decide) (by decide)) (fun _ =>
    br_c (fun a => dk 25 a (by decide) (by decide) (by decide) (by decide) (by decide)) (fun _ => br_c (fun a => dk 26 a (by decide) (by decide) (by decide) (by decide) (by decide)) (fun _ => br_c (fun a => dk 27 a (by decide) (by decide) (by decide) (by decide) (by decide)) (fun _ => br_c (fun a => dA (Or.inr (Or.inr (Or.inr (Or.inr (Or.inr a)))))) (fun _ => True.intro)))))))))))))))))))))))))))))
  · have : q = 0 ∨ q = 1 := by
      rw [eq] at a
      have := (nI_ltI (b := 2) (by omega) (by decide)).mp a
      omega
    rcases this with z | z
    · subst z; exact dk 0 eq (by decide) (by decide) (by decide) (by decide) (by decide)
    · subst z; exact dk 1 eq (by decide) (by decide) (by decide) (by decide) (by decide)
  · have : q = 29 := by
      rw [eq] at a
      have := (nI_ltI (a := 28) (by decide) (by omega)).mp a
      omega
    subst this
    exact dk 29 eq (by decide) (by decide) (by decide) (by decide) (by decide)
  · have a1 : ¬ (ya_kind v i = 2 ∨ ya_kind v i = 4 ∨ ya_kind v i = 12 ∨ ya_kind v i = 18 ∨ ya_kind v i = 20 ∨ ya_kind v i = 28) := by rw [a]; decide
    rw [if_neg a1, if_neg (by rw [a]; decide), if_neg (by rw [a]; decide), if_neg (by rw [a]; decide), if_pos a] at h
    have hop : st_op (ya_kind v i) := Or.inr (Or.inr (Or.inr a))
    obtain ⟨p1, p2, p3, p4, p5⟩ := un_opn S.2.1 hi hop
    have z0 : un_sel (ya_kind v) (ya_opA v) (ya_opB v) i (i + 1) = 0 := un_sel_0 (i + 1) (Nat.le_refl _)
    refine sy_part S hi hop (Or.inl rfl) (fun j' b1 b2 b3 g => ⟨st_e (ya_kind v) i n - j' + 2, ?_⟩) (fun g => ⟨1, ?_⟩)
    · have key := yr_sel S hi a h (st_e (ya_kind v) i n - j') j' (by omega) b3 b2 _ (Nat.lt_succ_self _)
      rw [un_sel_skip j' (show i + 1 ≤ j' by omega) (fun k p q => g k (by omega) q), z0] at key
      exact key
    · rw [uy_reads_227]
      rw [un_sel_skip _ (show i + 1 ≤ st_e (ya_kind v) i n by omega) (fun k p q => g k (by omega) q), z0] at h
      exact br_t (by decide) h
  · have a1 : ¬ (ya_kind v i = 2 ∨ ya_kind v i = 4 ∨ ya_kind v i = 12 ∨ ya_kind v i = 18 ∨ ya_kind v i = 20 ∨ ya_kind v i = 28) := by rw [a]; decide
    rw [if_neg a1, if_pos a] at h
    rw [nx_or]; exact h
