/-! Y: taking a line; both: the program is ended -/
theorem yl_args {post : Int32 → SY → Prop} {v : SY} {k a b c : Int32} (hk : ∃ q, q < 30 ∧ k = nI q) (h1 : ln_ok k a b c → cy_line_114 post k a b c v) (h0 : ¬ ln_ok k a b c → post 0 v) :
    ((k = 0 → (((a < 0 → (post 0 v)) ∧ (¬ a < 0 → (((2 < a → (post 0 v)) ∧ (¬ 2 < a → (cy_line_34 post k a b c v)))))))) ∧ (¬ k = 0 → (cy_line_34 post k a b c v))) := by
  have l89 : (¬ (k = 8 ∨ k = 11) ∨ (∃ p, p < 6 ∧ c = nI p) → ln_ok k a b c) → cy_line_89 post k a b c v := by
    intro f
    have l101 : k = 8 ∨ k = 11 → cy_line_101 post k a b c v := by
      intro e
      rw [uy_line_101]
      refine br_c (fun z => h0 (fun q => ?_)) (fun z => br_c (fun w => h1 (f (Or.inr (rg_le (N := 5) (by decide) z (Int32.not_lt.mpr w))))) (fun w => h0 (fun q => ?_)))
      · obtain ⟨p, hp, ep⟩ := q.2.2.2.1 e; rw [ep] at z; exact nI_pos (by omega) z
      · obtain ⟨p, hp, ep⟩ := q.2.2.2.1 e; rw [ep] at w; exact w (nI_le (b := 5) (by omega) (by decide))
    rw [uy_line_89]
    exact br_c (fun e => l101 (Or.inl e)) (fun n8 => br_c (fun e => l101 (Or.inr e)) (fun n11 => h1 (f (Or.inl (fun z => z.elim n8 n11)))))
  have l73 : ((ln_set k → ∃ p, p < 6 ∧ a = nI p) → (¬ (k = 8 ∨ k = 11) ∨ (∃ p, p < 6 ∧ c = nI p)) → ln_ok k a b c) → cy_line_73 post k a b c v := by
    intro f
    rw [uy_line_73]
    refine ysets (fun s => br_f (by decide) (br_c (fun z => h0 (fun q => ?_)) (fun z => br_c (fun w => h0 (fun q => ?_)) (fun w => l89 (f (fun _ => rg_le (N := 5) (by decide) z w)))))) (fun s => br_t rfl (l89 (f (fun z => absurd z s))))
    · obtain ⟨p, hp, ep⟩ := q.2.2.1 s; rw [ep] at z; exact nI_pos (by omega) z
    · obtain ⟨p, hp, ep⟩ := q.2.2.1 s; rw [ep] at w; exact nI_nlt (b := 5) (a := 5) (Nat.le_refl _) (by decide) (Int32.lt_of_lt_of_le w (nI_le (b := 5) (by omega) (by decide)))
  have l49 : ((ln_go k → ∃ p, p < 30 ∧ a = nI p) → (ln_set k → ∃ p, p < 6 ∧ a = nI p) → (¬ (k = 8 ∨ k = 11) ∨ (∃ p, p < 6 ∧ c = nI p)) → ln_ok k a b c) → cy_line_49 post k a b c v := by
    intro f
    rw [uy_line_49]
    refine br_c (fun z => l73 (f (fun g => absurd z (go_rng.mp g).1))) (fun z => br_c (fun w => l73 (f (fun g => absurd w (go_rng.mp g).2))) (fun w => ?_))
    have g := go_rng.mpr ⟨z, w⟩
    refine br_c (fun z => h0 (fun q => ?_)) (fun z => br_c (fun w => l73 (f (fun _ => rg_le (N := 29) (by decide) z (Int32.not_lt.mpr w)))) (fun w => h0 (fun q => ?_)))
    · obtain ⟨p, hp, ep⟩ := q.2.2.2.2.2 g; rw [ep] at z; exact nI_pos (by omega) z
    · obtain ⟨p, hp, ep⟩ := q.2.2.2.2.2 g; rw [ep] at w; exact w (nI_le (b := 29) (by omega) (by decide))
  have l34 : (k = 0 → ∃ p, p < 3 ∧ a = nI p) → cy_line_34 post k a b c v := by
    intro f0
    have f : (k = 13 → ∃ p, p < 4 ∧ b = nI p) → (ln_go k → ∃ p, p < 30 ∧ a = nI p) → (ln_set k → ∃ p, p < 6 ∧ a = nI p) → (¬ (k = 8 ∨ k = 11) ∨ (∃ p, p < 6 ∧ c = nI p)) → ln_ok k a b c :=
      fun f13 fg fs f8 => ⟨hk, f0, fs, fun e => f8.elim (fun z => absurd e z) id, f13, fg⟩
    rw [uy_line_34]
    refine br_c (fun e => br_c (fun z => h0 (fun q => ?_)) (fun z => br_c (fun w => h0 (fun q => ?_)) (fun w => l49 (f (fun _ => rg_le (N := 3) (by decide) z w))))) (fun e => l49 (f (fun z => absurd z e)))
    · obtain ⟨p, hp, ep⟩ := q.2.2.2.2.1 e; rw [ep] at z; exact nI_pos (by omega) z
    · obtain ⟨p, hp, ep⟩ := q.2.2.2.2.1 e; rw [ep] at w; exact nI_nlt (b := 3) (a := 3) (Nat.le_refl _) (by decide) (Int32.lt_of_lt_of_le w (nI_le (b := 3) (by omega) (by decide)))
  refine br_c (fun e => br_c (fun z => h0 (fun q => ?_)) (fun z => br_c (fun w => h0 (fun q => ?_)) (fun w => l34 (fun _ => rg_le (N := 2) (by decide) z w)))) (fun e => l34 (fun z => absurd z e))
  · obtain ⟨p, hp, ep⟩ := q.2.1 e; rw [ep] at z; exact nI_pos (by omega) z
  · obtain ⟨p, hp, ep⟩ := q.2.1 e; rw [ep] at w; exact nI_nlt (b := 2) (a := 2) (Nat.le_refl _) (by decide) (Int32.lt_of_lt_of_le w (nI_le (b := 2) (by omega) (by decide)))
theorem yl_line {post : Int32 → SY → Prop} {v : SY} {n : Nat} {k a b c : Int32} (hn : ya_lines v = nI n) (n1 : ¬ nI n = 60) (lo : ¬ k < 0) (hi : k ≤ 29) (h1 : ln_ok k a b c → cy_line_114 post k a b c v) (h0 : ¬ ln_ok k a b c → post 0 v) : wpY_line post v k a b c := by
  rw [uy_line, hn]
  exact br_f n1 (br_f lo (br_t hi (yl_args (rg_le (N := 29) (by decide) lo (Int32.not_lt.mpr hi)) h1 h0)))
def yz_a (v : SY) (st dp rs sh : Nat → Int32) : SY := ys_shocked (ys_resume (ys_depth (ys_status v st) dp) rs) sh
def yz_b (v : SY) : SY := ys_panicValue (ys_printed (ys_made (ys_off (ys_turn (ys_clock (ys_now (ys_started (ys_queued v 0) 0) 0) 0) 0) 0) 0) 0) 0
theorem yz_n {v : SY} {st dp rs sh st' dp' rs' sh' : Nat → Int32} : ys_shocked (ys_resume (ys_depth (ys_status (yz_a v st dp rs sh) st') dp') rs') sh' = yz_a v st' dp' rs' sh' := Eq.trans (b := (yb_lines v, yb_bad v, yb_state v, yb_queued v, yb_started v, yb_now v, yb_clock v, yb_turn v, yb_off v, yb_made v, yb_printed v, yb_panicValue v, yb_kind v, yb_opA v, yb_opB v, yb_opC v, yb_open v, yb_seen v, yb_unset v, st', dp', yb_since v, rs', sh', yb_queue v, yb_until v, yb_channels v, yb_pc v, yb_vars v, yb_noted v, yb_noteOf v, yb_noteB v, yb_noteC v, yb_asNote v, yb_panics v, yb_panicWith v, yb_capacity v, yb_held v, yb_closed v, yb_values v, yb_out v)) rfl rfl
theorem yz_0 {v : SY} : v = yz_a v (ya_status v) (ya_depth v) (ya_resume v) (ya_shocked v) := rfl
/-- Y's goroutines that have not been started -/
def rl_fresh (st dp rs sh : Nat → Int32) (s : Nat) : Prop := ∀ g, s ≤ g → g < 12 → st g = 0 ∧ dp g = 0 ∧ rs g = -1 ∧ sh g = 0
theorem yi_loop {post : SY → Prop} {v : SY} (hp : ∀ st dp rs sh, rl_fresh st dp rs sh 0 → post (yz_b (yz_a v st dp rs sh))) :
    ∀ d i st dp rs sh, i + d = 12 → (∀ g, g < i → st g = 0 ∧ dp g = 0 ∧ rs g = -1 ∧ sh g = 0) → ∀ m, d < m → cy_idle_7 post m (nI i) (yz_a v st dp rs sh) := by
  intro d
  induction d with
  | zero =>
    intro i st dp rs sh hi h m hm
    obtain ⟨m, rfl⟩ : ∃ q, m = q + 1 := ⟨m - 1, by omega⟩
    rw [uy_idle_7]
    exact br_t (nI_le (a := 12) (by omega) (by omega)) (hp st dp rs sh (fun g _ hg => h g (by omega)))
  | succ d ih =>
    intro i st dp rs sh hi h m hm
    obtain ⟨m, rfl⟩ : ∃ q, m = q + 1 := ⟨m - 1, by omega⟩
    rw [uy_idle_7, nI_clamp (by omega)]
    have vi : vp_in (nI i) 12 := vp_in_nI (by omega) (by decide)
    refine br_f (nI_ge (b := 12) (by omega) (by decide)) ⟨vi, nm_e ⟨vi, nm_e ⟨vi, nm_e ⟨vi, nm_e (nm_r (nI_1 _) ?_)⟩⟩⟩⟩
    rw [yz_n]
    refine ih (i + 1) _ _ _ _ (by omega) (fun g hg => ?_) m (by omega)
    by_cases e : g = i
    · subst e
      rw [pk_us, pk_us, pk_us, pk_us]
      exact ⟨by decide, by decide, by decide, by decide⟩
    · rw [pk_un e, pk_un e, pk_un e, pk_un e]
      exact h g (by omega)
theorem yi_idle {post : SY → Prop} {v : SY} (hp : ∀ st dp rs sh, rl_fresh st dp rs sh 0 → post (yz_b (yz_a (ys_state v 0) st dp rs sh))) : wpY_idle post v := by
  rw [uy_idle]
  exact ⟨13, yi_loop hp 12 0 (ya_status v) (ya_depth v) (ya_resume v) (ya_shocked v) (by omega) (fun g hg => by omega) 13 (by omega)⟩
def xz (u : SX) : SX := xs_queueLength (xs_running (xs_waitsBegun (xs_goroutineCount (xs_channelCount (xs_outputCount (xs_endingPanic (xs_time (xs_state u 0) 0) 0) 0) 0) 0) 0) (-1)) 0
theorem xz_p {post : SX → Prop} {u : SX} (h : post (xz u)) : wpX_endProgram post u := by
  rw [ux_endProgram]; exact h
/-! the relation -/
def rl_base (u : SX) (v : SY) : Prop :=
  (∃ n, n ≤ 60 ∧ xa_lineCount u = nI n ∧ ya_lines v = nI n ∧ ∀ i, i < n → ln_ok (xa_kinds u i) (xa_argA u i) (xa_argB u i) (xa_argC u i)) ∧
  ya_kind v = xa_kinds u ∧ ya_opA v = xa_argA u ∧ ya_opB v = xa_argB u ∧ ya_opC v = xa_argC u ∧ ya_bad v = xa_foundLine u ∧ ya_state v = xa_state u ∧ ya_clock v = xa_time u ∧
  ya_printed v = xa_outputCount u ∧ ya_out v = xa_outputs u ∧ ya_panicValue v = xa_endingPanic u ∧ ya_made v = xa_channelCount u ∧ ya_capacity v = xa_capacity u ∧ ya_held v = xa_fill u ∧ ya_closed v = xa_closed u ∧
  ya_started v = xa_goroutineCount u ∧ ya_turn v = xa_waitsBegun u ∧ ya_queued v = xa_queueLength u ∧ ya_vars v = xa_variables u ∧ ya_noted v = xa_noteCount u ∧ ya_noteOf v = xa_noteFunction u ∧ ya_panicWith v = xa_panicOf u ∧ ya_since v = xa_waitOrder u
/-- what the answers show of a goroutine -/
def rl_og (u : SX) (v : SY) (g : Nat) : Prop := ∃ d, d ≤ 4 ∧ xa_depth u g = nI d ∧ ya_depth v g = nI d ∧
  ((xa_status u g = 3 ∧ ya_status v g = 3) ∨ (xa_status u g = 2 ∧ ya_status v g = 2 ∧ 0 < d ∧ xa_position u (4 * g + d - 1) = ya_pc v (4 * g + d - 1)) ∨ ((xa_status u g = 0 ∨ xa_status u g = 1) ∧ ya_status v g = 1)) ∧
  (∀ j, j < d → (xa_mode u (4 * g + j) = 2 ↔ ¬ ya_panics v (4 * g + j) = 0))
def rl_obs (u : SX) (v : SY) : Prop := ∃ S c, S ≤ 12 ∧ xa_goroutineCount u = nI S ∧ c ≤ 8 ∧ xa_channelCount u = nI c ∧ ∀ g, g < S → rl_og u v g
/-- no wait is on -/
def rl_nw (u : SX) (g : Nat) : Prop := xa_waitUntil u g = -1 ∧ ∀ i, i < 3 → xa_slotWish u (3 * g + i) = 0
/-- the activations below the latest -/
def rl_low (u : SX) (v : SY) (n g d : Nat) : Prop := ya_asNote v (4 * g) = 0 ∧ ∀ j, j + 1 < d →
  (ya_asNote v (4 * g + j + 1) = 0 ∧ xa_mode u (4 * g + j) = 0 ∧ ya_panics v (4 * g + j) = 0 ∧ ∃ p, p < n ∧ xa_kinds u p = 15 ∧ ya_pc v (4 * g + j) = nI p ∧ xa_position u (4 * g + j) = nI (p + 1)) ∨
  (ya_asNote v (4 * g + j + 1) = 1 ∧ ((xa_mode u (4 * g + j) = 1 ∧ ya_panics v (4 * g + j) = 0) ∨ (xa_mode u (4 * g + j) = 2 ∧ ya_panics v (4 * g + j) = 1)))
/-- the notes of the activations -/
def rl_nts (u : SX) (v : SY) (g d : Nat) : Prop := ∀ j, j < d → ∃ c, c ≤ 3 ∧ xa_noteCount u (4 * g + j) = nI c ∧ ∀ i, i < c → (∃ f, f < 30 ∧ nI f < xa_functionCount u ∧ xa_noteFunction u (3 * (4 * g + j) + i) = nI f) ∧
  xa_noteValues u (2 * (3 * (4 * g + j) + i)) = ya_noteB v (3 * (4 * g + j) + i) ∧ xa_noteValues u (2 * (3 * (4 * g + j) + i) + 1) = ya_noteC v (3 * (4 * g + j) + i)
def rl_val (vars : Nat → Int32) (t : Nat) (op : Int32) : Int32 := if op < 0 then op else if (6 : Int32) ≤ op then op - 6 else vars (6 * t + op.toNatClampNeg)
/-- what a case waits for: the channel's number to receive, its negative to send -/
def rl_wish (K A B vars : Nat → Int32) (t : Nat) (m : Int32) (j : Nat) : Int32 :=
  if K j = 7 ∨ K j = 10 then (if ¬ rl_val vars t (A j) < 1 ∧ ¬ m < rl_val vars t (A j) then - rl_val vars t (A j) else 0)
  else (if ¬ rl_val vars t (B j) < 1 ∧ ¬ m < rl_val vars t (B j) then rl_val vars t (B j) else 0)
/-- X's slots of a goroutine that waits at line w -/
def rl_slo (u : SX) (v : SY) (n g t w : Nat) : Prop :=
  (xa_kinds u w = 28 → ∀ i, i < 3 → xa_slotWish u (3 * g + i) = 0) ∧
  (xa_kinds u w = 10 ∨ xa_kinds u w = 11 → xa_slotWish u (3 * g) = rl_wish (xa_kinds u) (xa_argA u) (xa_argB u) (xa_variables u) t (ya_channels v g) w ∧ xa_slotLine u (3 * g) = nI w ∧ xa_slotWish u (3 * g + 1) = 0 ∧ xa_slotWish u (3 * g + 2) = 0) ∧
  (xa_kinds u w = 6 → (∀ j, j < n → (st_s (xa_kinds u) j).head? = some w → st_pc (xa_kinds u j) = true → xa_slotLine u (3 * g + st_n (xa_kinds u) st_pc w j) = nI j ∧ xa_slotWish u (3 * g + st_n (xa_kinds u) st_pc w j) = rl_wish (xa_kinds u) (xa_argA u) (xa_argB u) (xa_variables u) t (ya_channels v g) j) ∧
    ∀ i, st_n (xa_kinds u) st_pc w n ≤ i → i < 3 → xa_slotWish u (3 * g + i) = 0)
def rl_wt (W : Nat) (u : SX) (v : SY) (n g d : Nat) : Prop := ∃ w, w < n ∧ (xa_kinds u w = 6 ∨ xa_kinds u w = 10 ∨ xa_kinds u w = 11 ∨ xa_kinds u w = 28) ∧
  xa_position u (4 * g + d - 1) = nI w ∧ ya_pc v (4 * g + d - 1) = nI w ∧ rl_slo u v n g (4 * g + d - 1) w ∧ ya_until v g = xa_waitUntil u g ∧
  ((xa_waitUntil u g = -1 ∧ ¬ xa_kinds u w = 28) ∨ (∃ s, s ≤ W * 2 ^ 31 ∧ xa_waitUntil u g = lN s ∧ (xa_kinds u w = 28 ∨ (xa_kinds u w = 6 ∧ ∃ j, j < n ∧ (st_s (xa_kinds u) j).head? = some w ∧ xa_kinds u j = 29)))) ∧
  ∃ m, m ≤ 8 ∧ ya_channels v g = nI m
/-- a goroutine that is not the running one -/
def rl_go (W : Nat) (u : SX) (v : SY) (n g : Nat) : Prop := ∃ d, d ≤ 4 ∧ xa_depth u g = nI d ∧ ya_depth v g = nI d ∧
  ((d = 0 ∧ xa_status u g = 3 ∧ ya_status v g = 3 ∧ rl_nw u g ∧ ya_resume v g = -1 ∧ ya_shocked v g = 0) ∨
   (0 < d ∧ rl_low u v n g d ∧ rl_nts u v g d ∧ xa_mode u (4 * g + d - 1) = 0 ∧ ya_panics v (4 * g + d - 1) = 0 ∧
    ((xa_status u g = 2 ∧ ya_status v g = 2 ∧ ya_resume v g = -1 ∧ ya_shocked v g = 0 ∧ rl_wt W u v n g d) ∨
     (xa_status u g = 1 ∧ ya_status v g = 1 ∧ ya_resume v g = -1 ∧ ya_shocked v g = 1 ∧ rl_nw u g) ∨
     (xa_status u g = 0 ∧ ya_status v g = 1 ∧ ya_shocked v g = 0 ∧ rl_nw u g ∧ ∃ p, p < n ∧ xa_position u (4 * g + d - 1) = nI p ∧ (ya_resume v g = nI p ∨ (ya_resume v g = -1 ∧ ya_pc v (4 * g + d - 1) = nI p ∧ ¬ st_mk (xa_kinds u p)))))))
def rl_chn (u : SX) (v : SY) : Prop := ∃ c, c ≤ 8 ∧ xa_channelCount u = nI c ∧ ∀ i, i < c → ∃ f q, f ≤ q ∧ q ≤ 3 ∧ xa_fill u i = nI f ∧ xa_capacity u i = nI q ∧ (xa_closed u i = 0 ∨ xa_closed u i = 1) ∧ ∀ j, j < f → xa_held u (3 * i + j) = ya_values v (3 * i + j)
def rl_que (u : SX) (v : SY) (S : Nat) (r : Option Nat) : Prop := ∃ Q : List Nat, Q.Nodup ∧ xa_queueLength u = nI Q.length ∧ (∀ i, i < Q.length → xa_queue u i = nI (Q.getD i 0) ∧ ya_queue v i = nI (Q.getD i 0)) ∧ (∀ g, g ∈ Q ↔ g < S ∧ ya_status v g = 1 ∧ ¬ some g = r)
def rl_tm (W : Nat) (u : SX) : Prop := ∃ w s, w ≤ W ∧ xa_waitsBegun u = nI w ∧ s ≤ W * 2 ^ 31 ∧ xa_time u = lN s
/-- all but the running goroutine r -/
def rl_co (W : Nat) (r : Option Nat) (u : SX) (v : SY) (n S : Nat) : Prop :=
  rl_base u v ∧ sx_st u n ∧ S ≤ 12 ∧ 0 < S ∧ xa_goroutineCount u = nI S ∧ rl_fresh (ya_status v) (ya_depth v) (ya_resume v) (ya_shocked v) S ∧ rl_chn u v ∧ rl_que u v S r ∧ rl_tm W u ∧ ∀ g, g < S → ¬ some g = r → rl_go W u v n g
/-- the running goroutine, but for its latest activation's line -/
def rl_me (u : SX) (v : SY) (n g d : Nat) : Prop := 0 < d ∧ d ≤ 4 ∧ xa_depth u g = nI d ∧ ya_depth v g = nI d ∧ rl_low u v n g d ∧ rl_nts u v g d ∧ xa_status u g = 0 ∧ ya_status v g = 1 ∧ ya_resume v g = -1 ∧ ya_shocked v g = 0 ∧ rl_nw u g
def rl_mid (W : Nat) (u : SX) (v : SY) (n S g d : Nat) : Prop := rl_co W (some g) u v n S ∧ g < S ∧ xa_running u = nI g ∧ ya_now v = nI g ∧ ya_off v = 0 ∧ rl_me u v n g d
/-- at rest: the running goroutine stands at a line to be executed -/
def rl_rest (W : Nat) (u : SX) (v : SY) : Prop := ∃ n S g d p, rl_mid W u v n S g d ∧ xa_mode u (4 * g + d - 1) = 0 ∧ ya_panics v (4 * g + d - 1) = 0 ∧ p < n ∧ xa_position u (4 * g + d - 1) = nI p ∧ ya_pc v (4 * g + d - 1) = nI p ∧ ¬ st_mk (xa_kinds u p)
def rl_full (k : Nat) (u : SX) (v : SY) : Prop := rl_rest (40 * k) u v
theorem rl_go_up {W W' : Nat} {u : SX} {v : SY} {n g : Nat} (h : W ≤ W') (H : rl_go W u v n g) : rl_go W' u v n g := by
  obtain ⟨d, a, b, c, H⟩ := H
  refine ⟨d, a, b, c, ?_⟩
  rcases H with H | ⟨x1, x2, x3, x4, x5, H⟩
  · exact Or.inl H
  · refine Or.inr ⟨x1, x2, x3, x4, x5, ?_⟩
    rcases H with ⟨y1, y2, y3, y4, w, z1, z2, z3, z4, z5, z6, z7, z8⟩ | H
    · refine Or.inl ⟨y1, y2, y3, y4, w, z1, z2, z3, z4, z5, z6, ?_, z8⟩
      rcases z7 with z7 | ⟨s, s1, s2⟩
      · exact Or.inl z7
      · exact Or.inr ⟨s, Nat.le_trans s1 (Nat.mul_le_mul_right _ h), s2⟩
    · exact Or.inr H
theorem rl_co_up {W W' : Nat} {r : Option Nat} {u : SX} {v : SY} {n S : Nat} (h : W ≤ W') (H : rl_co W r u v n S) : rl_co W' r u v n S := by
  obtain ⟨a, b, c, d, e, f, g, i, ⟨w, s, j1, j2, j3, j4⟩, l⟩ := H
  exact ⟨a, b, c, d, e, f, g, i, ⟨w, s, Nat.le_trans j1 h, j2, Nat.le_trans j3 (Nat.mul_le_mul_right _ h), j4⟩, fun q hq hr => rl_go_up h (l q hq hr)⟩
theorem rl_full_up {k : Nat} {u : SX} {v : SY} (h : rl_full k u v) : rl_full (k + 5) u v := by
  obtain ⟨n, S, g, d, p, ⟨a, b⟩, c⟩ := h
  exact ⟨n, S, g, d, p, ⟨rl_co_up (by omega) a, b⟩, c⟩
