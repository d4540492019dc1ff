/-! a new activation; a goroutine's wait forgotten -/
def rl_ev (vars : Nat → Int32) (t p : Nat) (x y : Int32) : Nat → Int32 := fun i => if 6 * t ≤ i ∧ i < 6 * t + 6 then (if i = 6 * t ∧ 0 < p then x else if i = 6 * t + 1 ∧ 1 < p then y else 0) else vars i
theorem xv_xv {u : SX} {a b : Nat → Int32} : xs_variables (xs_variables u a) b = xs_variables u b := Eq.trans (b := (xb_lineCount u, xb_functionCount u, xb_foundLine u, xb_state u, xb_time u, xb_endingPanic u, xb_outputCount u, xb_channelCount u, xb_goroutineCount u, xb_waitsBegun u, xb_running u, xb_queueLength u, xb_kinds u, xb_argA u, xb_argB u, xb_argC u, xb_blockOf u, xb_endOf u, xb_elseOf u, xb_functionLine u, xb_surelySet u, xb_outputs u, xb_capacity u, xb_fill u, xb_closed u, xb_held u, xb_status u, xb_depth u, xb_waitOrder u, xb_waitUntil u, xb_queue u, xb_slotWish u, xb_slotLine u, xb_position u, xb_mode u, xb_panicOf u, xb_noteCount u, xb_noteFunction u, xb_noteValues u, b)) rfl rfl
theorem yv_yv {v : SY} {a b : Nat → Int32} : ys_vars (ys_vars v a) b = ys_vars v b := Eq.trans (b := (yb_lines v, yb_bad v, yb_state v, yb_queued v, yb_started v, yb_now v, yb_clock v, yb_turn v, yb_off v, yb_made v, yb_printed v, yb_panicValue v, yb_kind v, yb_opA v, yb_opB v, yb_opC v, yb_open v, yb_seen v, yb_unset v, yb_status v, yb_depth v, yb_since v, yb_resume v, yb_shocked v, yb_queue v, yb_until v, yb_channels v, yb_pc v, b, yb_noted v, yb_noteOf v, yb_noteB v, yb_noteC v, yb_asNote v, yb_panics v, yb_panicWith v, yb_capacity v, yb_held v, yb_closed v, yb_values v, yb_out v)) rfl rfl
theorem xv_id {w : SX} : xs_variables w (xa_variables w) = w := rfl
theorem yv_id {w : SY} : ys_vars w (ya_vars w) = w := rfl
theorem xw_id {w : SX} : xs_slotWish w (xa_slotWish w) = w := rfl
theorem xw_xw {u : SX} {a b : Nat → Int32} : xs_slotWish (xs_slotWish u a) b = xs_slotWish u b := Eq.trans (b := (xb_lineCount u, xb_functionCount u, xb_foundLine u, xb_state u, xb_time u, xb_endingPanic u, xb_outputCount u, xb_channelCount u, xb_goroutineCount u, xb_waitsBegun u, xb_running u, xb_queueLength u, xb_kinds u, xb_argA u, xb_argB u, xb_argC u, xb_blockOf u, xb_endOf u, xb_elseOf u, xb_functionLine u, xb_surelySet u, xb_outputs u, xb_capacity u, xb_fill u, xb_closed u, xb_held u, xb_status u, xb_depth u, xb_waitOrder u, xb_waitUntil u, xb_queue u, b, xb_slotLine u, xb_position u, xb_mode u, xb_panicOf u, xb_noteCount u, xb_noteFunction u, xb_noteValues u, xb_variables u)) rfl rfl
theorem ix6 {t i : Nat} : nI t * 6 + nI i = nI (6 * t + i) := by
  rw [show (6 : Int32) = nI 6 from rfl, pk_mul, nI_add]; exact congrArg nI (by omega)
theorem iy6 {t i : Nat} : 6 * nI t + nI i = nI (6 * t + i) := by
  rw [show (6 : Int32) = nI 6 from rfl, pk_mul, nI_add]
theorem ix60 {t : Nat} : nI t * 6 = nI (6 * t) := by
  rw [show (6 : Int32) = nI 6 from rfl, pk_mul]; exact congrArg nI (by omega)
theorem xe_110 {post : SX → Prop} {w : SX} {V : Nat → Int32} {t p : Nat} {y : Int32} (ht : t < 48) (hp : p < 3) (h : ∀ V', (∀ j, V' j = if j = 6 * t + 1 ∧ 1 < p then y else V j) → post (xs_variables w V')) : cx_enter_110 post y (nI t) (nI p) (xs_variables w V) := by
  rw [ux_enter_110]
  by_cases z : p ≤ 1
  · exact br_t (nI_le (b := 1) z (by decide)) (h V (fun j => by rw [if_neg (by omega)]))
  · refine br_f (nI_ge (a := 1) (by omega) (by omega)) ?_
    rw [show (1 : Int32) = nI 1 from rfl, ix6, nI_clamp (by omega)]
    refine ⟨vp_in_nI (by omega) (by decide), nm_e ?_⟩
    rw [xv_xv]
    refine h _ (fun j => ?_)
    by_cases e : j = 6 * t + 1
    · subst e; rw [if_pos ⟨rfl, by omega⟩]; exact pk_us
    · rw [if_neg (fun w => e w.1)]; exact pk_un e
theorem xe_loop {post : SX → Prop} {w : SX} {vars : Nat → Int32} {t f j p : Nat} {x y : Int32} (ht : t < 48) (hf : f < 30) (ej : xa_functionLine w f = nI j) (hj : j < 60) (ep : xa_argA w j = nI p) (hp : p < 3) (h : post (xs_variables w (rl_ev vars t p x y))) :
    ∀ d i V, i + d = 6 → (∀ q, V q = if 6 * t ≤ q ∧ q < 6 * t + i then 0 else vars q) → ∀ m, d < m → cx_enter_54 post (nI f) x y (nI t) m (nI i) (xs_variables w V) := by
  intro d
  induction d with
  | zero =>
    intro i V hi hV m hm
    obtain ⟨m, rfl⟩ : ∃ q, m = q + 1 := ⟨m - 1, by omega⟩
    have i6 : i = 6 := by omega
    subst i6
    have ej' : xa_functionLine (xs_variables w V) f = nI j := ej
    have ep' : xa_argA (xs_variables w V) j = nI p := ep
    rw [ux_enter_54, nI_clamp (show f < 2 ^ 31 by omega), ej']
    refine br_t (by decide) ⟨vp_in_nI hf (by decide), vp_in_nI hj (by decide), nm_r (show _ = nI p by rw [nI_clamp (by omega)]; exact ep') ?_⟩
    have fin : ∀ V', (∀ q, V' q = if q = 6 * t + 1 ∧ 1 < p then y else (if q = 6 * t ∧ 0 < p then x else V q)) → post (xs_variables w V') := by
      intro V' hV'
      have e : V' = rl_ev vars t p x y := by
        funext q
        rw [hV' q, hV q]
        unfold rl_ev
        by_cases c1 : q = 6 * t + 1 ∧ 1 < p
        · rw [if_pos c1, if_pos (by omega), if_neg (by omega), if_pos c1]
        · rw [if_neg c1]
          by_cases c2 : q = 6 * t ∧ 0 < p
          · rw [if_pos c2, if_pos (by omega), if_pos c2]
          · rw [if_neg c2]
            by_cases c3 : 6 * t ≤ q ∧ q < 6 * t + 6
            · rw [if_pos c3, if_pos c3, if_neg c2, if_neg c1]
            · rw [if_neg c3, if_neg c3]
      rw [e]; exact h
    by_cases z : p = 0
    · subst z
      exact br_t (by decide) (xe_110 ht (by omega) (fun V' hV' => fin V' (fun q => by rw [hV' q, if_neg (c := q = 6 * t ∧ 0 < 0) (by omega)])))
    · refine br_f (nI_nle (by omega) (by omega)) ?_
      rw [ix60, nI_clamp (by omega)]
      refine ⟨vp_in_nI (by omega) (by decide), nm_e ?_⟩
      rw [xv_xv]
      refine xe_110 ht (by omega) (fun V' hV' => fin V' (fun q => ?_))
      rw [hV' q]
      by_cases c1 : q = 6 * t + 1 ∧ 1 < p
      · rw [if_pos c1, if_pos c1]
      · rw [if_neg c1, if_neg c1]
        by_cases c2 : q = 6 * t
        · subst c2; rw [if_pos ⟨rfl, by omega⟩]; exact pk_us
        · rw [if_neg (fun z => c2 z.1)]; exact pk_un c2
  | succ d ih =>
    intro i V hi hV m hm
    obtain ⟨m, rfl⟩ : ∃ q, m = q + 1 := ⟨m - 1, by omega⟩
    rw [ux_enter_54, ix6, nI_clamp (show 6 * t + i < 2 ^ 31 by omega)]
    refine br_f (nI_ge (b := 6) (by omega) (by decide)) ⟨vp_in_nI (by omega) (by decide), nm_e (nm_r (nI_1 _) ?_)⟩
    rw [xv_xv]
    refine ih (i + 1) _ (by omega) (fun q => ?_) m (by omega)
    by_cases e : q = 6 * t + i
    · subst e; rw [if_pos (by omega)]; exact pk_us
    · rw [pk_un e]
      show V q = _
      rw [hV q]
      by_cases c : 6 * t ≤ q ∧ q < 6 * t + i
      · rw [if_pos c, if_pos (by omega)]
      · rw [if_neg c, if_neg (by omega)]
def xe_w (u : SX) (g d j : Nat) : SX := xs_noteCount (xs_mode (xs_position (xs_depth u (upd (xa_depth u) g (nI (d + 1)))) (upd (xa_position u) (4 * g + d) (nI j))) (upd (xa_mode u) (4 * g + d) 0)) (upd (xa_noteCount u) (4 * g + d) 0)
theorem xe_enter {post : SX → Prop} {u : SX} {g d f j p : Nat} {x y : Int32} (hg : g < 12) (hd : d < 4) (e : xa_depth u g = nI d) (hf : f < 30) (ej : xa_functionLine u f = nI j) (hj : j < 60) (ep : xa_argA u j = nI p) (hp : p < 3)
    (h : post (xs_variables (xe_w u g d j) (rl_ev (xa_variables u) (4 * g + d) p x y))) : wpX_enter post u (nI g) (nI f) x y := by
  have vg : vp_in (nI g) 12 := vp_in_nI hg (by decide)
  have cg : (nI g).toNatClampNeg = g := nI_clamp (by omega)
  have ct : (nI (4 * g + d)).toNatClampNeg = 4 * g + d := nI_clamp (by omega)
  have vt : vp_in (nI (4 * g + d)) 48 := vp_in_nI (by omega) (by decide)
  have ix : nI g * 4 + nI d = nI (4 * g + d) := by
    rw [show (4 : Int32) = nI 4 from rfl, pk_mul, nI_add]; exact congrArg nI (by omega)
  rw [ux_enter, cg, e, nI_clamp (show f < 2 ^ 31 by omega), ej]
  refine ⟨vg, nm_r ix ⟨vg, vg, nm_r (show _ = upd (xa_depth u) g (nI (d + 1)) by rw [nI_1]) ⟨vp_in_nI hf (by decide), vt, nm_r (show _ = upd (xa_position u) (4 * g + d) (nI j) by rw [ct]) ⟨vt, nm_r (show _ = upd (xa_mode u) (4 * g + d) 0 by rw [ct]) ⟨vt, nm_r (show _ = upd (xa_noteCount u) (4 * g + d) 0 by rw [ct]) ⟨7, ?_⟩⟩⟩⟩⟩⟩
  have key := xe_loop (w := xe_w u g d j) (vars := xa_variables u) (x := x) (y := y) (t := 4 * g + d) (by omega) hf ej hj ep hp h 6 0 (xa_variables (xe_w u g d j)) (by omega) (fun q => by rw [if_neg (by omega)]; rfl) 7 (by omega)
  rw [xv_id] at key
  exact key
theorem ye_loop57 {post : SY → Prop} {w : SY} {vars : Nat → Int32} {t p : Nat} {x y : Int32} (ht : t < 48) (hp : p < 3) (h : post (ys_panics (ys_asNote (ys_noted (ys_vars w (rl_ev vars t p x y)) (upd (ya_noted w) t 0)) (upd (ya_asNote w) t 0)) (upd (ya_panics w) t 0))) :
    ∀ d i V, i + d = 6 → (∀ q, V q = if 6 * t ≤ q ∧ q < 6 * t + i then (if q = 6 * t ∧ 0 < p then x else if q = 6 * t + 1 ∧ 1 < p then y else 0) else vars q) → ∀ m, d < m → cy_enter_57 post x y (nI t) (nI p) m (nI i) (ys_vars w V) := by
  have ct : (nI t).toNatClampNeg = t := nI_clamp (by omega)
  have vt : vp_in (nI t) 48 := vp_in_nI ht (by decide)
  intro d
  induction d with
  | zero =>
    intro i V hi hV m hm
    obtain ⟨m, rfl⟩ : ∃ q, m = q + 1 := ⟨m - 1, by omega⟩
    have i6 : i = 6 := by omega
    subst i6
    have e : V = rl_ev vars t p x y := funext hV
    subst e
    rw [uy_enter_57, ct]
    exact br_t (by decide) ⟨vt, nm_r (show _ = upd (ya_noted w) t 0 from rfl) ⟨vt, nm_r (show _ = upd (ya_asNote w) t 0 from rfl) ⟨vt, nm_r (show _ = upd (ya_panics w) t 0 from rfl) h⟩⟩⟩
  | succ d ih =>
    intro i V hi hV m hm
    obtain ⟨m, rfl⟩ : ∃ q, m = q + 1 := ⟨m - 1, by omega⟩
    have vz : vp_in (nI (6 * t + i)) 288 := vp_in_nI (by omega) (by decide)
    have cz : (nI (6 * t + i)).toNatClampNeg = 6 * t + i := nI_clamp (by omega)
    have go : ∀ z, z = (if 6 * t + i = 6 * t ∧ 0 < p then x else if 6 * t + i = 6 * t + 1 ∧ 1 < p then y else 0) → cy_enter_57 post x y (nI t) (nI p) m (nI (i + 1)) (ys_vars (ys_vars w V) (upd V (6 * t + i) z)) := by
      intro z hz
      rw [yv_yv]
      refine ih (i + 1) _ (by omega) (fun q => ?_) m (by omega)
      by_cases e : q = 6 * t + i
      · subst e; rw [if_pos (by omega), pk_us]; exact hz
      · rw [pk_un e, hV q]
        by_cases c : 6 * t ≤ q ∧ q < 6 * t + i
        · rw [if_pos c, if_pos (show 6 * t ≤ q ∧ q < 6 * t + (i + 1) by omega)]
        · rw [if_neg c, if_neg (show ¬ (6 * t ≤ q ∧ q < 6 * t + (i + 1)) by omega)]
    have r90 : ¬ (i = 0 ∧ 0 < p) → cy_enter_90 post (cy_enter_57 post x y (nI t) (nI p) m) x y (nI t) (nI p) (nI i) (nI (6 * t + i)) (ys_vars w V) := by
      intro n0
      rw [uy_enter_90, cz]
      by_cases i1 : i = 1
      · refine br_t (by rw [i1]; rfl) ?_
        by_cases z : p ≤ 1
        · refine br_t (nI_le (b := 1) z (by decide)) ⟨vz, nm_e (nm_r (nI_1 _) (go 0 ?_))⟩
          rw [if_neg (by omega), if_neg (by omega)]
        · refine br_f (nI_ge (a := 1) (by omega) (by omega)) ⟨vz, nm_e (nm_r (nI_1 _) (go y ?_))⟩
          rw [if_neg (by omega), if_pos (by omega)]
      · refine br_f (fun w => i1 ((nI_eq (b := 1) (by omega) (by omega)).mp w)) ⟨vz, nm_e (nm_r (nI_1 _) (go 0 ?_))⟩
        rw [if_neg (by omega), if_neg (by omega)]
    rw [uy_enter_57, iy6]
    refine br_f (nI_ge (b := 6) (by omega) (by decide)) ?_
    by_cases i0 : i = 0
    · refine br_t (by rw [i0]; rfl) ?_
      by_cases z : p = 0
      · exact br_t (by rw [z]; decide) (r90 (by omega))
      · refine br_f (nI_nle (by omega) (by omega)) ⟨vz, ?_⟩
        rw [cz]
        refine nm_e (nm_r (nI_1 _) (go x ?_))
        rw [if_pos (by omega)]
    · exact br_f (nI_ne0 (by omega) (by omega)) (r90 (by omega))
def ye_w (v : SY) (g d j : Nat) : SY := ys_pc (ys_depth v (upd (ya_depth v) g (nI (d + 1)))) (upd (ya_pc v) (4 * g + d) (nI j))
def ye_s (v : SY) (g d j p : Nat) (x y : Int32) : SY := ys_panics (ys_asNote (ys_noted (ys_vars (ye_w v g d j) (rl_ev (ya_vars v) (4 * g + d) p x y)) (upd (ya_noted v) (4 * g + d) 0)) (upd (ya_asNote v) (4 * g + d) 0)) (upd (ya_panics v) (4 * g + d) 0)
theorem ye_enter {post : SY → Prop} {v : SY} {n g d f : Nat} {x y : Int32} (T : sy_st v n) (hg : g < 12) (hd : d < 4) (e : ya_depth v g = nI d) (hf : f < st_f (ya_kind v) n)
    (h : ∀ j p, j < n → ya_kind v j = 0 → st_f (ya_kind v) j = f → ya_opA v j = nI p → p < 3 → post (ye_s v g d j p x y)) : wpY_enter post v (nI g) (nI f) x y := by
  have n60 := T.2.1.1
  have vg : vp_in (nI g) 12 := vp_in_nI hg (by decide)
  have cg : (nI g).toNatClampNeg = g := nI_clamp (by omega)
  have ct : (nI (4 * g + d)).toNatClampNeg = 4 * g + d := nI_clamp (by omega)
  have vt : vp_in (nI (4 * g + d)) 48 := vp_in_nI (by omega) (by decide)
  have ix : 4 * nI g + nI d = nI (4 * g + d) := by
    rw [show (4 : Int32) = nI 4 from rfl, pk_mul, nI_add]
  have dn : vp_nar .byte ((nI d + 1).toInt8.toInt32) = nI (d + 1) := by rw [nI_1]; exact nb_64 _ (by omega)
  rw [uy_enter, cg, e]
  refine ⟨vg, br_f (fun z => by have := (nI_eq (b := 4) (by omega) (by decide)).mp z; omega) ⟨vg, vg, nm_r (show _ = upd (ya_depth v) g (nI (d + 1)) by rw [dn]) (nm_r ix (sy_par (v := ys_depth v (upd (ya_depth v) g (nI (d + 1)))) T hf (fun p3 => sy_fun (v := ys_depth v (upd (ya_depth v) g (nI (d + 1)))) T hf (fun j j1 j2 j3 j4 => ⟨vt, nm_r (show _ = upd (ya_pc v) (4 * g + d) (nI j) by rw [ct, nb_64 j (by omega)]) ⟨7, ?_⟩⟩))))⟩⟩
  have j2' : ya_kind v j = 0 := j2
  obtain ⟨p, hp, ep⟩ := (T.2.2.2.2.1 j j1).2.1 j2'
  have e2 : un_pf (ya_kind v) (ya_opA v) n f = p := by
    have j4' : st_fl (ya_kind v) f n = j := j4
    unfold un_pf; rw [j4', ep, nI_clamp (by omega)]
  have key := ye_loop57 (w := ye_w v g d j) (vars := ya_vars v) (x := x) (y := y) (t := 4 * g + d) (by omega) hp (h j p j1 j2' j3 ep hp) 6 0 (ya_vars (ye_w v g d j)) (by omega) (fun q => by rw [if_neg (by omega)]; rfl) 7 (by omega)
  rw [yv_id] at key
  have e2' : un_pf (ya_kind (ys_depth v (upd (ya_depth v) g (nI (d + 1))))) (ya_opA (ys_depth v (upd (ya_depth v) g (nI (d + 1))))) n f = p := e2
  rw [e2']
  exact key
def rl_fw (sw : Nat → Int32) (g : Nat) : Nat → Int32 := fun i => if 3 * g ≤ i ∧ i < 3 * g + 3 then 0 else sw i
theorem xf_forget {post : SX → Prop} {u : SX} {g : Nat} (hg : g < 12) (h : post (xs_slotWish (xs_waitUntil u (vp_updL (xa_waitUntil u) g (-1))) (rl_fw (xa_slotWish u) g))) : wpX_forgetWait post u (nI g) := by
  have cg : (nI g).toNatClampNeg = g := nI_clamp (by omega)
  have loop : ∀ d i V, i + d = 3 → (∀ q, V q = if 3 * g ≤ q ∧ q < 3 * g + i then 0 else xa_slotWish u q) → ∀ m, d < m → cx_forgetWait_11 post (nI g) m (nI i) (xs_slotWish (xs_waitUntil u (vp_updL (xa_waitUntil u) g (-1))) V) := by
    intro d
    induction d with
    | zero =>
      intro i V hi hV m hm
      obtain ⟨m, rfl⟩ : ∃ q, m = q + 1 := ⟨m - 1, by omega⟩
      have i3 : i = 3 := by omega
      subst i3
      have e : V = rl_fw (xa_slotWish u) g := funext hV
      rw [ux_forgetWait_11, e]
      exact br_t (by decide) h
    | succ d ih =>
      intro i V hi hV m hm
      obtain ⟨m, rfl⟩ : ∃ q, m = q + 1 := ⟨m - 1, by omega⟩
      have ix : nI g * 3 + nI i = nI (3 * g + i) := by
        rw [show (3 : Int32) = nI 3 from rfl, pk_mul, nI_add]; exact congrArg nI (by omega)
      rw [ux_forgetWait_11, ix, nI_clamp (show 3 * g + i < 2 ^ 31 by omega)]
      refine br_f (nI_ge (b := 3) (by omega) (by decide)) ⟨vp_in_nI (by omega) (by decide), nm_e (nm_r (nI_1 _) ?_)⟩
      rw [xw_xw]
      refine ih (i + 1) _ (by omega) (fun q => ?_) m (by omega)
      by_cases e : q = 3 * g + i
      · subst e; rw [if_pos (by omega)]; exact pk_us
      · rw [pk_un e]
        show V q = _
        rw [hV q]
        by_cases c : 3 * g ≤ q ∧ q < 3 * g + i
        · rw [if_pos c, if_pos (by omega)]
        · rw [if_neg c, if_neg (by omega)]
  rw [ux_forgetWait, cg]
  have key := loop 3 0 (xa_slotWish (xs_waitUntil u (vp_updL (xa_waitUntil u) g (-1)))) (by omega) (fun q => by rw [if_neg (by omega)]; rfl) 4 (by omega)
  rw [xw_id] at key
  exact ⟨vp_in_nI hg (by decide), nm_e ⟨4, key⟩⟩
