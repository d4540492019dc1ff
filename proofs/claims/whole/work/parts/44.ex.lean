/-! a line is executed: what the parts of it give -/
theorem rl_mid_up {W W' : Nat} {u : SX} {v : SY} {n S g d : Nat} (h : W ≤ W') (H : rl_mid W u v n S g d) : rl_mid W' u v n S g d := ⟨rl_co_up h H.1, H.2⟩
def ex_r (W : Nat) (A : (SX → Prop) → Prop) (B : (SY → Prop) → Prop) : Prop := ∃ k u1 u2 v', k ≤ 1000 ∧ (∀ P : SX → Prop, P u1 → A P) ∧ mv k u1 u2 ∧ (∀ P : SY → Prop, P v' → B P) ∧ rl_res W 13 u2 v'
theorem res_up {W c c' : Nat} {u : SX} {v : SY} (h : c ≤ c') (H : rl_res W c u v) : rl_res W c' u v := by
  rcases H with H | ⟨H, e⟩ | H
  · exact Or.inl H
  · exact Or.inr (Or.inl ⟨H, by omega⟩)
  · exact Or.inr (Or.inr H)
theorem res_13 {W g : Nat} {st : Nat → Int32} {u : SX} {v : SY} (hg : g < 12) (h : st g = 1) (H : rl_out W st g u v) : rl_res W 13 u v :=
  res_up (by have := ct_le (f := st) 12; omega) (res_out hg (by rw [h]; decide) H)
theorem ex_go {W : Nat} {u : SX} {v : SY} {n S g j p p' : Nat} {A : (SX → Prop) → Prop} {B : (SY → Prop) → Prop} (H : rl_mid W u v n S g (j + 1)) (s : xa_state u = 1) (hm : xa_mode u (4 * g + j) = 0) (hp : ya_panics v (4 * g + j) = 0) (hx : xa_position u (4 * g + j) = nI p) (pn : p < n) (pn' : p' < n) (pe : st_ch (xa_kinds u) n p' = st_ch (xa_kinds u) n p)
    (hA : ∀ P : SX → Prop, P u → A P) (hB : ∀ P : SY → Prop, wpY_goOn P v (nI g) (nI p') → B P) : ex_r W A B := by
  obtain ⟨k, u', v', k1, k2, k3, k4⟩ := go_all H s hm hp hx pn pn' pe
  exact ⟨k, u, u', v', k1, hA, k2, fun P q => hB P (k3 P q), res_13 (mid_t H).2 H.2.2.2.2.2.2.2.2.2.2.2.2.1 k4⟩
theorem ex_le {W : Nat} {u : SX} {v : SY} {n S g j : Nat} {A : (SX → Prop) → Prop} {B : (SY → Prop) → Prop} (H : rl_mid W u v n S g (j + 1)) (s : xa_state u = 1) (hm : (xa_mode u (4 * g + j) = 1 ∧ ya_panics v (4 * g + j) = 0) ∨ (xa_mode u (4 * g + j) = 2 ∧ ya_panics v (4 * g + j) = 1))
    (hA : ∀ P : SX → Prop, P u → A P) (hB : ∀ P : SY → Prop, wpY_leave P v (nI g) → B P) : ex_r W A B := by
  obtain ⟨k, u', v', k1, k2, k3, k4⟩ := le_all H s hm
  exact ⟨k, u, u', v', k1, hA, k2, fun P q => hB P (k3 P q), res_13 (mid_t H).2 H.2.2.2.2.2.2.2.2.2.2.2.2.1 k4⟩
theorem ex_pa {W : Nat} {u : SX} {v : SY} {n S g j : Nat} {x : Int32} {A : (SX → Prop) → Prop} {B : (SY → Prop) → Prop} (H : rl_mid W u v n S g (j + 1)) (s : xa_state u = 1)
    (hA : ∀ P : SX → Prop, wpX_panic P u (nI (4 * g + j)) x → A P) (hB : ∀ P : SY → Prop, wpY_panic P v (nI g) x → B P) : ex_r W A B := by
  obtain ⟨k, u', v', k1, k2, k3, k4⟩ := pa_all (x := x) H s
  exact ⟨k, _, u', v', k1, fun P q => hA P (xp_panic (mid_t H).1 q), k2, fun P q => hB P (k3 P q), res_13 (mid_t H).2 H.2.2.2.2.2.2.2.2.2.2.2.2.1 k4⟩
theorem xv_val {post : Int32 → Prop} {u : SX} {t : Nat} {op : Int32} (ht : t < 48) (h : post (rl_val (xa_variables u) t op)) : wpX_valueOf post u (nI t) op := by
  rw [ux_valueOf]
  unfold rl_val at h
  by_cases h0 : op < 0
  · rw [if_pos h0] at h
    exact br_f (Int32.not_le.mpr h0) h
  · rw [if_neg h0] at h
    refine br_t (Int32.not_lt.mp h0) ?_
    by_cases h6 : (6 : Int32) ≤ op
    · rw [if_pos h6] at h
      exact br_t h6 h
    · rw [if_neg h6] at h
      obtain ⟨p, hp, e⟩ := rg_lt (N := 6) (by decide) h0 h6
      subst e
      refine br_f h6 ?_
      rw [ix6, nI_clamp (by omega)]
      rw [nI_clamp (by omega)] at h
      exact ⟨vp_in_nI (by omega) (by decide), h⟩
theorem yv_val {post : Int32 → Prop} {v : SY} {g j : Nat} {op : Int32} (hg : g < 12) (j4 : j < 4) (hd : ya_depth v g = nI (j + 1)) (h : post (rl_val (ya_vars v) (4 * g + j) op)) : wpY_value post v (nI g) op := by
  rw [uy_value]
  unfold rl_val at h
  by_cases h0 : op < 0
  · rw [if_pos h0] at h
    refine br_t h0 ?_
    rw [uy_value_27]
    exact br_f (Int32.not_le.mpr h0) h
  · rw [if_neg h0] at h
    refine br_f h0 ?_
    by_cases h6 : (6 : Int32) ≤ op
    · rw [if_pos h6] at h
      refine br_t (le5.mpr h6) ?_
      rw [uy_value_27]
      exact br_t (Int32.not_lt.mp h0) h
    · rw [if_neg h6] at h
      obtain ⟨p, hp, e⟩ := rg_lt (N := 6) (by decide) h0 h6
      subst e
      refine br_f (fun z => h6 (le5.mp z)) (yg_topOf (d := j + 1) hg (by omega) hd ?_)
      rw [show 4 * g + (j + 1) - 1 = 4 * g + j from rfl, iy6, nI_clamp (by omega)]
      rw [nI_clamp (by omega)] at h
      exact ⟨vp_in_nI (by omega) (by decide), h⟩
theorem ys_set {post : SY → Prop} {v : SY} {g j p : Nat} {x : Int32} (hg : g < 12) (j4 : j < 4) (hd : ya_depth v g = nI (j + 1)) (hp : p < 6) (h : post (ys_vars v (upd (ya_vars v) (6 * (4 * g + j) + p) x))) : wpY_set post v (nI g) (nI p) x := by
  rw [uy_set]
  refine yg_topOf (d := j + 1) hg (by omega) hd ?_
  rw [show 4 * g + (j + 1) - 1 = 4 * g + j from rfl, iy6, nI_clamp (show 6 * (4 * g + j) + p < 2 ^ 31 by omega)]
  exact ⟨vp_in_nI (by omega) (by decide), nm_e h⟩
theorem fr_e24 {g g' i : Nat} {a : Nat → Int32} {x : Int32} (h : ¬ g' = g) (hi : i < 24) : fr_e 24 g' a (upd a (24 * g + i) x) := fr_eu (by omega)
theorem ix24 {g j p : Nat} : 6 * (4 * g + j) + p = 24 * g + (6 * j + p) := by omega
/-- a variable of the latest activation is set -/
theorem mid_var {W : Nat} {u : SX} {v : SY} {n S g j p : Nat} {x : Int32} (H : rl_mid W u v n S g (j + 1)) (hp : p < 6) : rl_mid W (xs_variables u (upd (xa_variables u) (6 * (4 * g + j) + p) x)) (ys_vars v (upd (ya_vars v) (6 * (4 * g + j) + p) x)) n S g (j + 1) := by
  obtain ⟨m1, m2, m3, m4, m5, m6, m7, m8, m9, m10, m11⟩ := me_b H.2.2.2.2.2
  obtain ⟨L0, B1, B2, B3, B4, B5, B6, B7, B8, B9, B10, B11, B12, B13, B14, B15, B16, B17, B18, B19, B20, B21, B22⟩ := bs_b H.1.1
  rw [ix24]
  exact mid_loc H ⟨⟨rfl, rfl, rfl, rfl, rfl, rfl, rfl, rfl, rfl, rfl⟩, rfl, rfl, rfl, rfl, rfl, rfl, fun g1 h1 => ⟨rfl, rfl, rfl, fr_er, fr_er, fr_er, fr_er, fr_er, fr_er, fr_er, (fr_e24 h1 (by omega) : fr_e 24 g1 (xa_variables u) (upd (xa_variables u) (24 * g + (6 * j + p)) x))⟩⟩ ⟨rfl, rfl, rfl, fun g1 h1 => ⟨rfl, rfl, rfl, rfl, rfl, rfl, fr_er, fr_er, fr_er, fr_er, fr_er⟩⟩ ⟨L0, B1, B2, B3, B4, B5, B6, B7, B8, B9, B10, B11, B12, B13, B14, B15, B16, B17, (show upd (yb_vars v) (24 * g + (6 * j + p)) x = upd (xb_variables u) (24 * g + (6 * j + p)) x by rw [B18]), B19, B20, B21, B22⟩ (chn_fr H.1.2.2.2.2.2.2.1 rfl rfl rfl rfl rfl rfl) ⟨m1, m2, m3, m4, (rl_low_fr rfl m2 fr_er fr_er fr_er fr_er fr_er m5), (rl_nts_fr rfl m2 fr_er fr_er fr_er fr_er fr_er m6), m7, m8, m9, m10, (rl_nw_fr rfl fr_er m11)⟩
theorem xc_set {post : SX → Prop} {u : SX} {t i p : Nat} {x : Int32} (ht : t < 48) (hi : i < 60) (ea : xa_argA u i = nI p) (hp : p < 6) (h : post (xs_variables u (upd (xa_variables u) (6 * t + p) x))) : vp_in (nI i) 60 ∧ (vp_in ((nI t * 6) + (xa_argA u (nI i).toNatClampNeg)) 288 ∧ ∀ a, a = upd (xa_variables u) ((nI t * 6) + (xa_argA u (nI i).toNatClampNeg)).toNatClampNeg x → post (xs_variables u a)) := by
  rw [nI_clamp (show i < 2 ^ 31 by omega), ea, ix6, nI_clamp (show 6 * t + p < 2 ^ 31 by omega)]
  exact ⟨vp_in_nI hi (by decide), vp_in_nI (by omega) (by decide), nm_e h⟩
/-- printing -/
theorem mid_out {W : Nat} {u : SX} {v : SY} {n S g d : Nat} {c : Int32} {o : Nat → Int32} (H : rl_mid W u v n S g d) : rl_mid W (xs_outputs (xs_outputCount u c) o) (ys_out (ys_printed v c) o) n S g d := by
  obtain ⟨m1, m2, m3, m4, m5, m6, m7, m8, m9, m10, m11⟩ := me_b H.2.2.2.2.2
  obtain ⟨L0, B1, B2, B3, B4, B5, B6, B7, B8, B9, B10, B11, B12, B13, B14, B15, B16, B17, B18, B19, B20, B21, B22⟩ := bs_b H.1.1
  exact mid_loc H ⟨⟨rfl, rfl, rfl, rfl, rfl, rfl, rfl, rfl, rfl, rfl⟩, rfl, rfl, rfl, rfl, rfl, rfl, fun g1 h1 => ⟨rfl, rfl, rfl, fr_er, fr_er, fr_er, fr_er, fr_er, fr_er, fr_er, fr_er⟩⟩ ⟨rfl, rfl, rfl, fun g1 h1 => ⟨rfl, rfl, rfl, rfl, rfl, rfl, fr_er, fr_er, fr_er, fr_er, fr_er⟩⟩ ⟨L0, B1, B2, B3, B4, B5, B6, B7, rfl, rfl, B10, B11, B12, B13, B14, B15, B16, B17, B18, B19, B20, B21, B22⟩ (chn_fr H.1.2.2.2.2.2.2.1 rfl rfl rfl rfl rfl rfl) ⟨m1, m2, m3, m4, (rl_low_fr rfl m2 fr_er fr_er fr_er fr_er fr_er m5), (rl_nts_fr rfl m2 fr_er fr_er fr_er fr_er fr_er m6), m7, m8, m9, m10, (rl_nw_fr rfl fr_er m11)⟩
/-- a call is noted -/
theorem mid_note {W : Nat} {u : SX} {v : SY} {n S g j c f : Nat} {x y : Int32} (H : rl_mid W u v n S g (j + 1)) (hc : xa_noteCount u (4 * g + j) = nI c) (c3 : c < 3) (hf : f < 30) (ff : nI f < xa_functionCount u) :
    rl_mid W (xs_noteValues (xs_noteFunction (xs_noteCount u (upd (xa_noteCount u) (4 * g + j) (nI (c + 1)))) (upd (xa_noteFunction u) (3 * (4 * g + j) + c) (nI f))) (upd (upd (xa_noteValues u) (2 * (3 * (4 * g + j) + c)) x) (2 * (3 * (4 * g + j) + c) + 1) y))
      (ys_noteC (ys_noteB (ys_noteOf (ys_noted v (upd (ya_noted v) (4 * g + j) (nI (c + 1)))) (upd (ya_noteOf v) (3 * (4 * g + j) + c) (nI f))) (upd (ya_noteB v) (3 * (4 * g + j) + c) x)) (upd (ya_noteC v) (3 * (4 * g + j) + c) y)) n S g (j + 1) := by
  obtain ⟨m1, m2, m3, m4, m5, m6, m7, m8, m9, m10, m11⟩ := me_b H.2.2.2.2.2
  obtain ⟨L0, B1, B2, B3, B4, B5, B6, B7, B8, B9, B10, B11, B12, B13, B14, B15, B16, B17, B18, B19, B20, B21, B22⟩ := bs_b H.1.1
  refine mid_loc H ⟨⟨rfl, rfl, rfl, rfl, rfl, rfl, rfl, rfl, rfl, rfl⟩, rfl, rfl, rfl, rfl, rfl, rfl, fun g1 h1 => ⟨rfl, rfl, rfl, fr_er, fr_er, fr_er, fr_er, (fr_e4 h1 (by omega) : fr_e 4 g1 (xa_noteCount u) (upd (xa_noteCount u) (4 * g + j) (nI (c + 1)))), (fr_eu (by omega) : fr_e 12 g1 (xa_noteFunction u) (upd (xa_noteFunction u) (3 * (4 * g + j) + c) (nI f))), (fr_et (fr_eu (by omega)) (fr_eu (by omega)) : fr_e 24 g1 (xa_noteValues u) (upd (upd (xa_noteValues u) (2 * (3 * (4 * g + j) + c)) x) (2 * (3 * (4 * g + j) + c) + 1) y)), fr_er⟩⟩ ⟨rfl, rfl, rfl, fun g1 h1 => ⟨rfl, rfl, rfl, rfl, rfl, rfl, fr_er, fr_er, fr_er, (fr_eu (by omega) : fr_e 12 g1 (ya_noteB v) (upd (ya_noteB v) (3 * (4 * g + j) + c) x)), (fr_eu (by omega) : fr_e 12 g1 (ya_noteC v) (upd (ya_noteC v) (3 * (4 * g + j) + c) y))⟩⟩ ⟨L0, B1, B2, B3, B4, B5, B6, B7, B8, B9, B10, B11, B12, B13, B14, B15, B16, B17, B18, (show upd (yb_noted v) (4 * g + j) (nI (c + 1)) = upd (xb_noteCount u) (4 * g + j) (nI (c + 1)) by rw [B19]), (show upd (yb_noteOf v) (3 * (4 * g + j) + c) (nI f) = upd (xb_noteFunction u) (3 * (4 * g + j) + c) (nI f) by rw [B20]), B21, B22⟩ (chn_fr H.1.2.2.2.2.2.2.1 rfl rfl rfl rfl rfl rfl) ⟨m1, m2, m3, m4, (rl_low_fr rfl m2 fr_er fr_er fr_er fr_er fr_er m5), fun i hi => ?_, m7, m8, m9, m10, (rl_nw_fr rfl fr_er m11)⟩
  obtain ⟨c', c1, c2, c4⟩ := m6 i hi
  have ff : nI f < xb_functionCount u := ff
  have nf : ∀ q, ¬ q = 3 * (4 * g + j) + c → upd (xa_noteFunction u) (3 * (4 * g + j) + c) (nI f) q = xa_noteFunction u q := fun q hq => pk_un hq
  by_cases e : i = j
  · subst e
    rw [hc] at c2
    have cc : c = c' := (nI_eq (by omega) (by omega)).mp c2
    subst cc
    refine ⟨c + 1, by omega, (pk_us : upd (xa_noteCount u) (4 * g + i) (nI (c + 1)) (4 * g + i) = _), fun q hq => ?_⟩
    by_cases e : q = c
    · subst e
      refine ⟨⟨f, hf, ff, (pk_us : upd (xa_noteFunction u) (3 * (4 * g + i) + q) (nI f) (3 * (4 * g + i) + q) = _)⟩, ?_, ?_⟩
      · show upd (upd (xa_noteValues u) (2 * (3 * (4 * g + i) + q)) x) (2 * (3 * (4 * g + i) + q) + 1) y (2 * (3 * (4 * g + i) + q)) = upd (ya_noteB v) (3 * (4 * g + i) + q) x (3 * (4 * g + i) + q)
        rw [pk_un (by omega), pk_us, pk_us]
      · show upd (upd (xa_noteValues u) (2 * (3 * (4 * g + i) + q)) x) (2 * (3 * (4 * g + i) + q) + 1) y (2 * (3 * (4 * g + i) + q) + 1) = upd (ya_noteC v) (3 * (4 * g + i) + q) y (3 * (4 * g + i) + q)
        rw [pk_us, pk_us]
    · obtain ⟨⟨f', d1, d2, d3⟩, d4, d5⟩ := c4 q (by omega)
      refine ⟨⟨f', d1, (d2 : nI f' < xb_functionCount u), (nf _ (by omega)).trans d3⟩, ?_, ?_⟩
      · show upd (upd (xa_noteValues u) (2 * (3 * (4 * g + i) + c)) x) (2 * (3 * (4 * g + i) + c) + 1) y (2 * (3 * (4 * g + i) + q)) = upd (ya_noteB v) (3 * (4 * g + i) + c) x (3 * (4 * g + i) + q)
        rw [pk_un (by omega), pk_un (by omega), pk_un (by omega)]; exact d4
      · show upd (upd (xa_noteValues u) (2 * (3 * (4 * g + i) + c)) x) (2 * (3 * (4 * g + i) + c) + 1) y (2 * (3 * (4 * g + i) + q) + 1) = upd (ya_noteC v) (3 * (4 * g + i) + c) y (3 * (4 * g + i) + q)
        rw [pk_un (by omega), pk_un (by omega), pk_un (by omega)]; exact d5
  · refine ⟨c', c1, (pk_un (by omega) : upd (xa_noteCount u) (4 * g + j) (nI (c + 1)) (4 * g + i) = _).trans c2, fun q hq => ?_⟩
    obtain ⟨⟨f', d1, d2, d3⟩, d4, d5⟩ := c4 q hq
    refine ⟨⟨f', d1, (d2 : nI f' < xb_functionCount u), (nf _ (by omega)).trans d3⟩, ?_, ?_⟩
    · show upd (upd (xa_noteValues u) (2 * (3 * (4 * g + j) + c)) x) (2 * (3 * (4 * g + j) + c) + 1) y (2 * (3 * (4 * g + i) + q)) = upd (ya_noteB v) (3 * (4 * g + j) + c) x (3 * (4 * g + i) + q)
      rw [pk_un (by omega), pk_un (by omega), pk_un (by omega)]; exact d4
    · show upd (upd (xa_noteValues u) (2 * (3 * (4 * g + j) + c)) x) (2 * (3 * (4 * g + j) + c) + 1) y (2 * (3 * (4 * g + i) + q) + 1) = upd (ya_noteC v) (3 * (4 * g + j) + c) y (3 * (4 * g + i) + q)
      rw [pk_un (by omega), pk_un (by omega), pk_un (by omega)]; exact d5
